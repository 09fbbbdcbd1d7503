import java.util.ArrayList;
import java.util.List;
import java.util.function.ToIntFunction;
import java.util.regex.Matcher;
import java.util.regex.Pattern;

/** Reads a text into trees: all tokens first, and what binds by a table of levels. */
final class ModelReader {
    static final class Fault extends Exception {
        private static final long serialVersionUID = 1;
        final int place;

        Fault(int place) {
            this.place = place;
        }
    }

    private record Token(String word, int from) { }

    private static final Pattern TOKEN = Pattern.compile("[a-z]+|[0-9]+|[^ \n]", Pattern.DOTALL);
    private static final List<String> NAMES = List.of("topic", "last", "warmth", "number", "said", "place");
    private final List<Token> tokens = new ArrayList<>();
    private int at = 0;
    private int open = 0;

    ModelReader(String text) {
        Matcher m = TOKEN.matcher(text);
        while (m.find()) {
            tokens.add(new Token(m.group(), m.start()));
        }
        tokens.add(new Token("", text.length()));
    }

    Model.Rule rule() throws Fault {
        take("warms");
        ToIntFunction<Model.Scene> warms = level(0);
        take(";");
        take("cools");
        ToIntFunction<Model.Scene> cools = level(0);
        take(";");
        take("screams");
        ToIntFunction<Model.Scene> screams = level(0);
        take(";");
        take("");
        return new Model.Rule(warms, cools, screams);
    }

    private boolean is(String word) {
        return tokens.get(at).word().equals(word);
    }

    private void take(String word) throws Fault {
        if (!is(word)) {
            throw new Fault(tokens.get(at).from());
        }
        at++;
    }

    private void opens() throws Fault {
        if (open == 5) {
            throw new Fault(tokens.get(at).from());
        }
        open++;
        at++;
    }

    /** 0 or, 1 and, 2 not and comparisons, 3 sums, 4 terms, 5 ones. */
    private ToIntFunction<Model.Scene> level(int n) throws Fault {
        if (n == 2 && is("not")) {
            opens();
            ToIntFunction<Model.Scene> of = level(2);
            open--;
            return s -> of.applyAsInt(s) == 0 ? 1 : 0;
        }
        if (n == 5) {
            return one();
        }
        List<String> signs = List.of(List.of("or"), List.of("and"), List.of("<", "="), List.of("+", "-"),
            List.of("*")).get(n);
        ToIntFunction<Model.Scene> left = level(n + 1);
        for (boolean more = true; more && signs.contains(tokens.get(at).word()); more = n != 2) {
            String sign = tokens.get(at).word();
            at++;
            left = join(sign, left, level(n + 1));
        }
        return left;
    }

    private static ToIntFunction<Model.Scene> join(String sign, ToIntFunction<Model.Scene> a,
            ToIntFunction<Model.Scene> b) {
        switch (sign) {
            case "or": return s -> a.applyAsInt(s) != 0 | b.applyAsInt(s) != 0 ? 1 : 0;
            case "and": return s -> a.applyAsInt(s) != 0 & b.applyAsInt(s) != 0 ? 1 : 0;
            case "<": return s -> a.applyAsInt(s) < b.applyAsInt(s) ? 1 : 0;
            case "=": return s -> a.applyAsInt(s) == b.applyAsInt(s) ? 1 : 0;
            case "+": return s -> a.applyAsInt(s) + b.applyAsInt(s);
            case "-": return s -> a.applyAsInt(s) - b.applyAsInt(s);
            default: return s -> a.applyAsInt(s) * b.applyAsInt(s);
        }
    }

    private ToIntFunction<Model.Scene> one() throws Fault {
        String word = tokens.get(at).word();
        if (word.matches("[0-9]{1,4}")) {
            at++;
            int v = Integer.parseInt(word);
            return s -> v;
        }
        int name = NAMES.indexOf(word);
        if (name >= 0) {
            at++;
            return s -> new int[] {s.topic(), s.last(), s.warmth(), s.number(), s.said(), s.place()}[name];
        }
        if (word.equals("-")) {
            opens();
            ToIntFunction<Model.Scene> of = one();
            open--;
            return s -> -of.applyAsInt(s);
        }
        if (!word.equals("(")) {
            throw new Fault(tokens.get(at).from());
        }
        opens();
        ToIntFunction<Model.Scene> inside = level(0);
        take(")");
        open--;
        return inside;
    }
}
