import java.lang.reflect.Constructor;
import java.lang.reflect.Field;
import java.lang.reflect.Method;
import java.lang.reflect.Modifier;
import java.nio.charset.StandardCharsets;
import java.nio.file.Files;
import java.nio.file.Path;
import java.util.ArrayList;
import java.util.Arrays;
import java.util.LinkedHashMap;
import java.util.LinkedHashSet;
import java.util.List;
import java.util.Map;
import java.util.Set;
import java.util.TreeSet;
import java.util.regex.Matcher;
import java.util.regex.Pattern;

/** The face of the document, and those rules of LANGUAGE.md that can be seen from outside. */
public final class LanguageTest {
    private static final Check CHECK = new Check("LanguageTest");
    private static final String[] FACE = {
        "int set(int,int,int)", "int guest(int,int,int)", "int told(int,int)", "int feed(int)", "int text()",
        "int force(int)", "int evening(int,int)", "int hold(int)", "int warmest(int)", "int soonest(int)",
        "int ratherNot(int)", "int topic(int,int)", "int turns(int)", "int tells(int,int)", "int film(int)",
        "int drawn(int)", "long chance(int,int,int)", "int image()", "int back()", "int count(int)",
        "int sheet(int,int,int)", "int cell(int,int,int)", "int copy(int,int,int,int,int)",
        "int guests(int,int,int,int)", "int taken(int,int)"};

    public static void main(String[] args) throws Exception {
        face();
        insides();
        source();
        library();
        depth();
        CHECK.end();
    }

    private static String signature(Method m) {
        StringBuilder b = new StringBuilder(m.getReturnType().getName()).append(' ').append(m.getName()).append('(');
        for (Class<?> c : m.getParameterTypes()) {
            b.append(b.charAt(b.length() - 1) == '(' ? "" : ",").append(c.getName());
        }
        return b.append(')').toString();
    }

    private static void face() {
        Class<?> c = SamovarOpinions.class;
        CHECK.isTrue("public and final", Modifier.isPublic(c.getModifiers()) && Modifier.isFinal(c.getModifiers()));
        Set<String> is = new TreeSet<>();
        for (Method m : c.getDeclaredMethods()) {
            if (Modifier.isPublic(m.getModifiers())) {
                is.add(signature(m));
            } else {
                CHECK.isTrue(m + " is private", Modifier.isPrivate(m.getModifiers()));
            }
        }
        CHECK.isTrue("the face's methods: " + is, is.equals(new TreeSet<>(Arrays.asList(FACE))));
        Set<String> fields = new TreeSet<>();
        for (Field f : c.getDeclaredFields()) {
            if (Modifier.isPublic(f.getModifiers())) {
                fields.add(f.getType() + " " + f.getName());
            } else {
                CHECK.isTrue(f + " is private", Modifier.isPrivate(f.getModifiers()));
            }
        }
        CHECK.isTrue("the face's constants: " + fields,
            fields.equals(Set.of("int NONE", "int BAD", "int STATE", "int FULL", "long NO")));
        Constructor<?>[] made = c.getDeclaredConstructors();
        CHECK.isTrue("one public constructor of nothing",
            made.length == 1 && Modifier.isPublic(made[0].getModifiers()) && made[0].getParameterCount() == 0);
    }

    private static void insides() {
        Set<String> names = new TreeSet<>();
        for (String s : FACE) {
            names.add(s.substring(s.indexOf(' ') + 1, s.indexOf('(')));
        }
        List<Class<?>> all = new ArrayList<>(Arrays.asList(SamovarOpinions.class.getDeclaredClasses()));
        CHECK.isTrue("some twelve classes", all.size() <= 11);
        for (Class<?> c : all) {
            CHECK.isTrue(c + " is static", Modifier.isStatic(c.getModifiers()));
            CHECK.isTrue(c + " is not open", !Modifier.isPublic(c.getModifiers()) && !Modifier.isProtected(c.getModifiers()));
            for (Method m : c.getDeclaredMethods()) {
                CHECK.isTrue(m + " has a name of its own", !names.contains(m.getName()));
            }
        }
        all.add(SamovarOpinions.class);
        for (Class<?> c : all) {
            int fields = 0;
            for (Field f : c.getDeclaredFields()) {
                boolean isStatic = Modifier.isStatic(f.getModifiers());
                fields += isStatic ? 0 : 1;
                CHECK.isTrue(f + " is final, if static", !isStatic || Modifier.isFinal(f.getModifiers()));
            }
            CHECK.isTrue(c + " has some twenty fields", fields <= 20);
            for (Method m : c.getDeclaredMethods()) {
                CHECK.isTrue(m + " has seven parameters at most", m.getParameterCount() <= 7);
            }
        }
    }

    private static void source() throws Exception {
        byte[] bytes = Files.readAllBytes(Path.of("src/main/java/SamovarOpinions.java"));
        boolean plain = true;
        for (byte b : bytes) {
            plain &= b > 0;
        }
        CHECK.isTrue("signs 1 to 127", plain);
        String code = new String(bytes, StandardCharsets.US_ASCII).replaceAll("(?s)/\\*.*?\\*/", "")
            .replaceAll("//[^\n]*", "").replaceAll("\"[^\"\n]*\"", "\"\"");
        for (String word : List.of("throw", "throws", "try", "catch", "synchronized", "assert", "import", "package",
                "float", "native", "volatile", "Exception", "Object", "equals", "hashCode", "toString")) {
            CHECK.isTrue("no " + word, !Pattern.compile("\\b" + word + "\\b").matcher(code).find());
        }
        CHECK.isTrue("no lambda, no method reference", !code.contains("->") && !code.contains("::"));
        Matcher m = Pattern.compile("\n( {4}| {8})(\\w[^\n;=]*\\)) \\{\n(.*?)\n\\1\\}", Pattern.DOTALL).matcher(code);
        int methods = 0;
        while (m.find()) {
            methods++;
            CHECK.isTrue(m.group(2) + " is short", m.group(3).split("\n").length <= 58);
        }
        CHECK.isTrue("methods were found", methods > 100);
    }

    private static final Pattern MAY_USE = Pattern.compile("(java/lang/Object\\.<init>|"
        + "java/lang/String\\.(length|charAt|isEmpty|equals|indexOf|substring|toCharArray|<init>)|"
        + "java/lang/StringBuilder\\.(<init>|append|charAt|setCharAt|setLength|deleteCharAt|reverse|length|toString)|"
        + "java/lang/(Math|Integer|Long)\\.(compare|max|min|abs|bitCount|floorDiv|floorMod)|"
        + "java/lang/System\\.arraycopy|java/util/Arrays\\.(copyOf|copyOfRange|fill)|"
        + "java/util/(ArrayList|List)\\.(<init>|add|get|set|remove|size|isEmpty|clear|of)|\\[[IJBC]\\.clone)\\(");

    /** The library's parts that the class names, as they stand in its compiled form. */
    private static void library() throws Exception {
        int used = 0;
        for (ClassFile file : files()) {
            CHECK.isTrue("no call that is put together as it runs", !file.isPutTogetherAsItRuns());
            for (String member : file.named()) {
                if (!member.startsWith("SamovarOpinions")) {
                    used++;
                    CHECK.isTrue("the class may use " + member, MAY_USE.matcher(member).lookingAt());
                }
            }
        }
        CHECK.isTrue("something was found", used > 0);
    }

    private static List<ClassFile> files() throws Exception {
        List<ClassFile> files = new ArrayList<>();
        files.add(ClassFile.of(SamovarOpinions.class));
        for (Class<?> c : SamovarOpinions.class.getDeclaredClasses()) {
            files.add(ClassFile.of(c));
        }
        return files;
    }

    /** Calls that are no recursion go eight deep at most; what calls itself is told first how deep it is. */
    private static void depth() throws Exception {
        Map<String, Set<String>> calls = new LinkedHashMap<>();
        for (ClassFile file : files()) {
            calls.putAll(file.calls());
        }
        for (Set<String> called : calls.values()) {
            called.retainAll(calls.keySet());
        }
        CHECK.isTrue("methods were found", calls.size() > 100);
        Map<String, Set<String>> reached = new LinkedHashMap<>();
        for (String m : calls.keySet()) {
            reached.put(m, reachedFrom(m, calls));
        }
        int recursive = 0;
        for (String m : calls.keySet()) {
            if (reached.get(m).contains(m)) {
                recursive++;
                CHECK.isTrue(m + " is told how deep it is", m.contains("(I"));
            }
            int deep = deepFrom(m, calls, reached);
            CHECK.isTrue(m + " goes " + deep + " deep", deep <= 8);
        }
        CHECK.isTrue("some that call themselves were found", recursive >= 4);
    }

    private static Set<String> reachedFrom(String m, Map<String, Set<String>> calls) {
        Set<String> reached = new LinkedHashSet<>();
        List<String> next = new ArrayList<>(calls.get(m));
        while (!next.isEmpty()) {
            String called = next.remove(next.size() - 1);
            if (reached.add(called)) {
                next.addAll(calls.get(called));
            }
        }
        return reached;
    }

    /** How many methods stand open at the most, those that call one another in a ring counted as one. */
    private static int deepFrom(String m, Map<String, Set<String>> calls, Map<String, Set<String>> reached) {
        Set<String> ring = new LinkedHashSet<>(List.of(m));
        for (String other : reached.get(m)) {
            if (reached.get(other).contains(m)) {
                ring.add(other);
            }
        }
        int deep = 0;
        for (String one : ring) {
            for (String called : calls.get(one)) {
                if (!ring.contains(called)) {
                    deep = Math.max(deep, deepFrom(called, calls, reached));
                }
            }
        }
        return deep + 1;
    }
}
