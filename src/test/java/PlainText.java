import java.util.ArrayList;
import java.util.List;
import java.util.Set;

/** RULES of a text, read by what may come next: a token that may not is the fault. */
final class PlainText {
    static final PlainText NONE = new PlainText();

    final List<Clause> clauses = new ArrayList<>();
    int fault = -1;

    static final class Clause {
        int from;
        int to = -1;
        boolean drops;
        int track;
        final List<String> test = new ArrayList<>();

        boolean isSo(Set<Integer> occupied, Set<Integer> off, int[] names) {
            return test.isEmpty() || new Truth(test, occupied, off, names).either();
        }
    }

    /** Goes through the tokens of a test that is known to be one. */
    private static final class Truth {
        private final List<String> tokens;
        private final Set<Integer> occupied;
        private final Set<Integer> off;
        private final int[] names;
        private int at;

        Truth(List<String> tokens, Set<Integer> occupied, Set<Integer> off, int[] names) {
            this.tokens = tokens;
            this.occupied = occupied;
            this.off = off;
            this.names = names;
        }

        private boolean next(String word) {
            boolean is = at < tokens.size() && tokens.get(at).equals(word);
            at += is ? 1 : 0;
            return is;
        }

        boolean either() {
            boolean so = both();
            while (next("or")) {
                so |= both();
            }
            return so;
        }

        private boolean both() {
            boolean so = plain();
            while (next("and")) {
                so &= plain();
            }
            return so;
        }

        private boolean plain() {
            if (next("not")) {
                return !plain();
            }
            if (next("(")) {
                boolean so = either();
                next(")");
                return so;
            }
            String word = tokens.get(at);
            int number = Integer.parseInt(tokens.get(at + 1));
            at += 2;
            return switch (word) {
                case "track" -> occupied.contains(number);
                case "signal" -> off.contains(number);
                default -> names[number] != 0;
            };
        }
    }

    private enum Want { CLAUSE, FROM, TOWARD, TO, AT, WAY, TRACK, IF, PLAIN, NUMBER, MORE }

    private Want want = Want.CLAUSE;
    private boolean clearing;
    private int open;
    private int plains;
    private int top;

    static PlainText read(List<Integer> bytes) {
        PlainText text = new PlainText();
        StringBuilder signs = new StringBuilder();
        for (int b : bytes) {
            signs.append((char) b);
        }
        var tokens = java.util.regex.Pattern.compile("[a-z]+|[0-9]+|[^ ]", java.util.regex.Pattern.DOTALL).matcher(signs);
        while (tokens.find()) {
            if (!text.goesOn(tokens.group())) {
                text.fault = tokens.start();
                return text;
            }
        }
        boolean whole = text.want == Want.IF || text.want == Want.MORE && text.open == 0;
        text.fault = whole ? -1 : bytes.size();
        return text;
    }

    private Clause latest() {
        return clauses.get(clauses.size() - 1);
    }

    private static int number(String token, int top) {
        if (!Character.isDigit(token.charAt(0))) {
            return -1;
        }
        java.math.BigInteger n = new java.math.BigInteger(token);
        return n.compareTo(java.math.BigInteger.valueOf(top)) > 0 ? -1 : n.intValue();
    }

    private boolean then(boolean is, Want next) {
        want = is ? next : want;
        return is;
    }

    private boolean goesOn(String t) {
        switch (want) {
            case CLAUSE:
                clearing = t.equals("clear");
                if (clauses.size() == 16 || !clearing && !t.equals("step")) {
                    return false;
                }
                clauses.add(new Clause());
                want = Want.FROM;
                return true;
            case FROM:
                latest().from = number(t, 11);
                return then(latest().from >= 0, clearing ? Want.AT : Want.TOWARD);
            case TOWARD:
                return then(t.equals("to"), Want.TO);
            case TO:
                latest().to = number(t, 11);
                return then(latest().to >= 0, Want.AT);
            case AT:
                return then(t.equals("at"), Want.WAY);
            case WAY:
                latest().drops = t.equals("drop");
                return then(latest().drops || t.equals("pick"), Want.TRACK);
            case TRACK:
                latest().track = number(t, 15);
                return then(latest().track >= 0, Want.IF);
            case IF:
                return then(t.equals(";"), Want.CLAUSE) || then(t.equals("if"), Want.PLAIN);
            default:
                return goesOnInTest(t);
        }
    }

    private boolean goesOnInTest(String t) {
        if (want == Want.MORE && t.equals(";") && open == 0) {
            want = Want.CLAUSE;
            return true;
        }
        boolean goes;
        if (want == Want.PLAIN) {
            goes = plainStarts(t);
        } else if (want == Want.NUMBER) {
            goes = then(number(t, top) >= 0, Want.MORE);
        } else if (t.equals(")")) {
            goes = open > 0;
            open--;
        } else {
            goes = then(t.equals("and") || t.equals("or"), Want.PLAIN);
        }
        latest().test.add(t);
        return goes;
    }

    private boolean plainStarts(String t) {
        if (t.equals("not")) {
            return true;
        }
        if (t.equals("(")) {
            open++;
            return open <= 8;
        }
        top = t.equals("track") ? 15 : t.equals("signal") ? 7 : t.equals("full") ? 11 : -1;
        plains++;
        return then(top >= 0 && plains <= 50, Want.NUMBER);
    }
}
