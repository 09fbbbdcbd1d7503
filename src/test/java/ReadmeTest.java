import java.lang.reflect.Method;
import java.lang.reflect.Modifier;
import java.nio.file.Files;
import java.nio.file.Path;
import java.util.regex.Matcher;
import java.util.regex.Pattern;

/** The calls that README.md shows answer as it says there, and it leaves none of the class out. */
public final class ReadmeTest {
    private static final Check CHECK = new Check("ReadmeTest");
    private static final Pattern NEW = Pattern.compile(" {4}SamovarOpinions x = new SamovarOpinions\\(\\);");
    private static final Pattern CALL = Pattern.compile(" {4}x\\.(\\w+)\\(([-\\d, ]*)\\); +// (-?\\d+)(:.*)?");
    private static final Pattern FED = Pattern.compile(
        " {4}for \\(char c : \"([^\"]*)\"\\.toCharArray\\(\\)\\) x\\.feed\\(c\\);");

    public static void main(String[] args) throws Exception {
        String page = Files.readString(Path.of("README.md"));
        shown(page.substring(page.indexOf("## How to use it"), page.indexOf("### All calls")));
        allCalls(page);
        CHECK.end();
    }

    private static void shown(String part) throws Exception {
        SamovarOpinions x = null;
        int calls = 0;
        for (String line : part.split("\n")) {
            Matcher call = CALL.matcher(line);
            Matcher fed = FED.matcher(line);
            if (NEW.matcher(line).matches()) {
                x = new SamovarOpinions();
            } else if (fed.matches()) {
                for (char c : fed.group(1).toCharArray()) {
                    x.feed(c);
                }
            } else if (call.matches()) {
                calls++;
                CHECK.due(line, answer(x, call.group(1), call.group(2)), Long.parseLong(call.group(3)));
            } else {
                CHECK.isTrue("a line that is no call: " + line, !line.startsWith("    "));
            }
        }
        CHECK.isTrue("calls were found", calls > 30);
    }

    private static long answer(SamovarOpinions x, String name, String numbers) throws Exception {
        String[] words = numbers.isEmpty() ? new String[0] : numbers.split(", ");
        Class<?>[] types = new Class<?>[words.length];
        Object[] values = new Object[words.length];
        for (int i = 0; i < words.length; i++) {
            types[i] = int.class;
            values[i] = Integer.valueOf(words[i]);
        }
        return ((Number) SamovarOpinions.class.getMethod(name, types).invoke(x, values)).longValue();
    }

    private static void allCalls(String page) {
        for (Method m : SamovarOpinions.class.getDeclaredMethods()) {
            if (Modifier.isPublic(m.getModifiers())) {
                int n = m.getParameterCount();
                String form = "`" + m.getName() + "\\(" + (n == 0 ? "" : "\\w+" + ", \\w+".repeat(n - 1)) + "\\)`";
                CHECK.isTrue("README.md has " + m.getName(), Pattern.compile(form).matcher(page).find());
            }
        }
    }
}
