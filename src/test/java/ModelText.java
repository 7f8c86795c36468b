import java.util.ArrayList;
import java.util.List;
import java.util.Map;
import java.util.function.ToIntFunction;

/** Reads a text for the model: all tokens first, then a tree of functions. */
final class ModelText {
    private static final List<String> KEYS = List.of("need", "row", "or", "and", "not");
    private static final List<String> NAMES = List.of("store", "rows", "day", "share", "alive", "more");

    private static final class Fault extends RuntimeException {
        private static final long serialVersionUID = 1;
    }

    private record Token(String text, int place) {
    }

    int fault = -1;
    private final List<Token> tokens = new ArrayList<>();
    private int next = 0;
    private int open = 0;

    ModelText(List<Integer> bytes) {
        StringBuilder all = new StringBuilder();
        for (int b : bytes) {
            all.append((char) b);
        }
        String s = all.toString();
        java.util.regex.Matcher m = java.util.regex.Pattern.compile("[a-z]+|[0-9]+|[ \n]+|(?s:.)").matcher(s);
        while (m.find()) {
            String t = m.group();
            if (t.charAt(0) != ' ' && t.charAt(0) != '\n') {
                tokens.add(new Token(t, m.start()));
            }
        }
        tokens.add(new Token("", s.length()));
    }

    Model.Text text() {
        try {
            must("need");
            ToIntFunction<Map<String, Integer>> need = either();
            must(";");
            must("row");
            ToIntFunction<Map<String, Integer>> row = either();
            must(";");
            must("");
            return new Model.Text(need, row);
        } catch (Fault f) {
            fault = tokens.get(Math.min(next, tokens.size() - 1)).place;
            return null;
        }
    }

    private String look() {
        return tokens.get(next).text;
    }

    private void must(String wanted) {
        if (!look().equals(wanted)) {
            throw new Fault();
        }
        if (!wanted.isEmpty()) {
            next++;
        }
    }

    private boolean comes(String wanted) {
        if (look().equals(wanted)) {
            next++;
            return true;
        }
        return false;
    }

    private void openOne() {
        if (open == 5) {
            throw new Fault();
        }
        open++;
        next++;
    }

    private static int truth(boolean b) {
        return b ? 1 : 0;
    }

    private ToIntFunction<Map<String, Integer>> either() {
        ToIntFunction<Map<String, Integer>> a = both();
        while (comes("or")) {
            ToIntFunction<Map<String, Integer>> l = a;
            ToIntFunction<Map<String, Integer>> r = both();
            a = f -> truth(l.applyAsInt(f) != 0 | r.applyAsInt(f) != 0);
        }
        return a;
    }

    private ToIntFunction<Map<String, Integer>> both() {
        ToIntFunction<Map<String, Integer>> a = not();
        while (comes("and")) {
            ToIntFunction<Map<String, Integer>> l = a;
            ToIntFunction<Map<String, Integer>> r = not();
            a = f -> truth(l.applyAsInt(f) != 0 & r.applyAsInt(f) != 0);
        }
        return a;
    }

    private ToIntFunction<Map<String, Integer>> not() {
        if (look().equals("not")) {
            openOne();
            ToIntFunction<Map<String, Integer>> a = not();
            open--;
            return f -> truth(a.applyAsInt(f) == 0);
        }
        ToIntFunction<Map<String, Integer>> a = sum();
        if (comes("<")) {
            ToIntFunction<Map<String, Integer>> b = sum();
            return f -> truth(a.applyAsInt(f) < b.applyAsInt(f));
        }
        if (comes("=")) {
            ToIntFunction<Map<String, Integer>> b = sum();
            return f -> truth(a.applyAsInt(f) == b.applyAsInt(f));
        }
        return a;
    }

    private ToIntFunction<Map<String, Integer>> sum() {
        ToIntFunction<Map<String, Integer>> a = term();
        while (look().equals("+") || look().equals("-")) {
            boolean more = look().equals("+");
            next++;
            ToIntFunction<Map<String, Integer>> l = a;
            ToIntFunction<Map<String, Integer>> r = term();
            a = more ? f -> l.applyAsInt(f) + r.applyAsInt(f) : f -> l.applyAsInt(f) - r.applyAsInt(f);
        }
        return a;
    }

    private ToIntFunction<Map<String, Integer>> term() {
        ToIntFunction<Map<String, Integer>> a = one();
        while (comes("*")) {
            ToIntFunction<Map<String, Integer>> l = a;
            ToIntFunction<Map<String, Integer>> r = one();
            a = f -> l.applyAsInt(f) * r.applyAsInt(f);
        }
        return a;
    }

    private ToIntFunction<Map<String, Integer>> one() {
        String t = look();
        if (t.equals("-")) {
            openOne();
            ToIntFunction<Map<String, Integer>> a = one();
            open--;
            return f -> -a.applyAsInt(f);
        }
        if (t.equals("(")) {
            openOne();
            ToIntFunction<Map<String, Integer>> a = either();
            must(")");
            open--;
            return a;
        }
        if (NAMES.contains(t)) {
            next++;
            return f -> f.get(t);
        }
        if (!t.isEmpty() && t.length() <= 4 && Character.isDigit(t.charAt(0)) && t.charAt(0) < 128 && !KEYS.contains(t)) {
            next++;
            int v = Integer.parseInt(t);
            return f -> v;
        }
        throw new Fault();
    }
}
