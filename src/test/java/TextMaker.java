/** Makes texts by the grammar, some of them with a fault put in. */
final class TextMaker {
    private static final String[] NAMES = {"store", "rows", "day", "share", "alive", "more"};
    private static final String[] ODD = {"(", ")", ";", "+", "-", "*", "<", "=", "not", "or", "and", "need", "row",
        "rows", "12345", "0001", "x", "nots", "A", "@", "\t", " ", "\n", "7", "store", "\u00ff", "\u0080", "- - - - -", "((((("};

    private final Chance chance;
    private final StringBuilder out = new StringBuilder();

    private TextMaker(Chance chance) {
        this.chance = chance;
    }

    static String make(Chance chance) {
        TextMaker t = new TextMaker(chance);
        t.word("need");
        t.either(chance.from(0, 3));
        t.sign(";");
        t.word("row");
        t.either(chance.from(0, 3));
        t.sign(";");
        String all = t.out.toString();
        if (chance.once(3)) {
            int at = chance.below(all.length() + 1);
            int to = Math.min(all.length(), at + chance.below(4));
            all = all.substring(0, at) + ODD[chance.below(ODD.length)] + all.substring(to);
        }
        if (chance.once(12)) {
            all = all.substring(0, chance.below(all.length() + 1));
        }
        return all.length() > 160 ? all.substring(0, 160) : all;
    }

    private void word(String w) {
        if (out.length() > 0 && Character.isLetterOrDigit(out.charAt(out.length() - 1)) || chance.once(3)) {
            out.append(chance.once(4) ? '\n' : ' ');
        }
        out.append(w);
    }

    private void sign(String s) {
        if (chance.once(4)) {
            out.append(' ');
        }
        out.append(s);
    }

    private void either(int deep) {
        both(deep);
        while (chance.once(8)) {
            word("or");
            both(deep);
        }
    }

    private void both(int deep) {
        not(deep);
        while (chance.once(8)) {
            word("and");
            not(deep);
        }
    }

    private void not(int deep) {
        if (chance.once(8)) {
            word("not");
            not(deep);
            return;
        }
        sum(deep);
        if (chance.once(5)) {
            sign(chance.once(2) ? "<" : "=");
            sum(deep);
        }
    }

    private void sum(int deep) {
        term(deep);
        while (chance.once(3)) {
            sign(chance.once(2) ? "+" : "-");
            term(deep);
        }
    }

    private void term(int deep) {
        one(deep);
        while (chance.once(4)) {
            sign("*");
            one(deep);
        }
    }

    private void one(int deep) {
        int what = chance.below(10);
        if (what == 0) {
            sign("-");
            one(deep);
        } else if (what <= 2 && deep > 0) {
            sign("(");
            either(deep - 1);
            sign(")");
        } else if (what <= 6) {
            word(NAMES[chance.below(NAMES.length)]);
        } else {
            word(String.valueOf(chance.once(6) ? chance.below(10000) : chance.below(12)));
        }
    }
}
