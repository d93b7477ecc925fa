import java.util.Random;

/** Makes laws and signs by chance, and spoils them. */
final class TextMaker {
    private static final String[] LAW_FACTS =
        {"amount", "far", "rail", "house", "weekday", "book", "count"};
    private static final String[] SIGN_FACTS =
        {"turn", "count", "round", "match", "book", "low", "far"};
    private static final String[] SPOILS = {"", "(", ")", ";", "x", "/0", "/000", " not ", "123456", "\t",
        "Hold", "=", ".", " 7 ", "/", "*", "\u00e9", "\n", "when", "or", "and", "not", "0", "-", "<", "hold ",
        "cry ", "turn", "amount", "(1=1)", " when 1=1", "hold 1;", "cry when 2>1;"};

    private final Random random;

    TextMaker(Random random) {
        this.random = random;
    }

    private int below(int n) {
        return random.nextInt(n);
    }

    private String unit(String[] facts) {
        if (below(2) == 0) {
            return facts[below(facts.length)];
        }
        int n = below(6);
        return "" + (n == 0 ? below(100000) : n == 1 ? below(1000) : below(8));
    }

    private String sum(String[] facts) {
        StringBuilder b = new StringBuilder(unit(facts));
        for (int n = below(4); n > 1; n--) {
            int op = below(4);
            b.append(op == 0 ? "+" : op == 1 ? "-" : op == 2 ? "*" : "/");
            b.append(op == 3 ? "" + (1 + below(9)) : unit(facts));
        }
        return b.toString();
    }

    private String condition(String[] facts, int depth) {
        int n = below(9);
        if (n == 0 && depth < 10) {
            return "not " + condition(facts, depth + 1);
        }
        if (n == 1 && depth < 10) {
            return "(" + condition(facts, depth + 1) + ")";
        }
        if (n < 4 && depth < 4) {
            return "(" + condition(facts, depth + 2) + (below(2) == 0 ? ") and " : ") or ")
                + condition(facts, depth + 1) + (below(2) == 0 ? " or " : " and ")
                + condition(facts, depth + 2);
        }
        return sum(facts) + "<=>".charAt(below(3)) + sum(facts);
    }

    String law() {
        String[] words = {"hold ", "limit ", "fee "};
        StringBuilder b = new StringBuilder();
        for (int n = below(6); n > 0; n--) {
            b.append(words[below(3)]).append(sum(LAW_FACTS));
            if (below(2) == 0) {
                b.append(" when ").append(condition(LAW_FACTS, 0));
            }
            b.append(";\n");
        }
        return b.toString();
    }

    String signs() {
        StringBuilder b = new StringBuilder();
        for (int n = 1 + below(3); n > 0; n--) {
            b.append("cry when ").append(condition(SIGN_FACTS, 0)).append(";");
        }
        return b.toString();
    }

    /** Many short lines: 12 can stand. */
    String manyLines(boolean ofSigns) {
        StringBuilder b = new StringBuilder();
        String[] words = {"hold ", "limit ", "fee "};
        for (int n = 10 + below(5); n > 0; n--) {
            b.append(ofSigns ? "cry when 1<2" : words[below(3)] + below(9)).append(";");
        }
        return b.toString();
    }

    /** Conditions that open some nine ( and not at once: eight can stand. */
    String deep(boolean ofSigns) {
        StringBuilder open = new StringBuilder(ofSigns ? "cry when " : "fee 5 when ");
        StringBuilder close = new StringBuilder();
        for (int n = 6 + below(4); n > 0; n--) {
            if (below(2) == 0) {
                open.append("not ");
            } else {
                open.append(below(3) == 0 ? "(2=3 or " : "(");
                close.append(below(3) == 0 ? " and 1=1)" : ")");
            }
        }
        return open.append("1=").append(below(3)).append(close).append(";").toString();
    }

    String spoilt(String s) {
        int i = below(s.length() + 1);
        String extra = SPOILS[below(SPOILS.length)];
        return s.substring(0, i) + extra + s.substring(below(3) == 0 ? Math.min(s.length(), i + 2) : i);
    }

    /** A text of any of these ways, 400 signs at most. */
    String any(boolean ofSigns) {
        int way = below(8);
        String s = way == 0 ? manyLines(ofSigns) : way == 1 ? deep(ofSigns) : ofSigns ? signs() : law();
        for (int n = below(3); n > 0; n--) {
            s = spoilt(s);
        }
        return s.length() > 400 ? s.substring(0, 400) : s;
    }
}
