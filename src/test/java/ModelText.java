import java.util.ArrayDeque;
import java.util.Deque;
import java.util.List;

/** Texts for the model: faults by a row of open things, values by cutting at the loosest sign. */
final class ModelText {
    private static final List<String> KEYS = List.of("melt", "owner", "fine");
    private static final String[] NAMES = {"wsz", "hw", "ws"};

    private ModelText() {
    }

    /** What stands around a place: a ( or the whole text, and how many ! wait there for a piece. */
    private static final class Around {
        int nots = 0;
        boolean compared = false;
    }

    static int key(List<String> words) {
        return KEYS.indexOf(words.get(0));
    }

    static int operands(List<String> words) {
        int n = 0;
        for (String w : words.subList(1, words.size())) {
            n += Character.isLetterOrDigit(w.charAt(0)) ? 1 : 0;
        }
        return n;
    }

    /** -1: it is a text, and its words and signs are in words then. */
    static int fault(List<Integer> bytes, List<String> words) {
        StringBuilder all = new StringBuilder();
        for (int b : bytes) {
            all.append((char) b);
        }
        java.util.regex.Matcher m = java.util.regex.Pattern.compile("[a-z]+|[0-9]+|[^ ]", java.util.regex.Pattern.DOTALL).matcher(all);
        Deque<Around> arounds = new ArrayDeque<>();
        boolean pieceDue = true;
        int lastWordEnd = -1;
        while (m.find()) {
            String w = m.group();
            boolean word = w.matches("[a-z]+|[0-9]+");
            if (word && m.start() == lastWordEnd) {
                return m.start();
            }
            lastWordEnd = word ? m.end() : -1;
            if (words.isEmpty()) {
                if (!KEYS.contains(w)) {
                    return m.start();
                }
                arounds.push(new Around());
            } else if (pieceDue) {
                if (w.equals("!")) {
                    if (++arounds.peek().nots + arounds.stream().skip(1).mapToInt(a -> a.nots).sum() > 8) {
                        return m.start();
                    }
                } else if (w.equals("(")) {
                    if (arounds.size() > 8) {
                        return m.start();
                    }
                    arounds.push(new Around());
                } else if (w.matches("[0-9]{1,4}") || w.length() == 1 && NAMES[key(words)].contains(w)) {
                    arounds.peek().nots = 0;
                    pieceDue = false;
                } else {
                    return m.start();
                }
            } else if (w.equals(")") && arounds.size() > 1) {
                arounds.pop();
                arounds.peek().nots = 0;
            } else if (w.length() == 1 && "+-*/".contains(w)) {
                pieceDue = true;
            } else if (w.length() == 1 && "<=>".contains(w) && !arounds.peek().compared) {
                arounds.peek().compared = true;
                pieceDue = true;
            } else if (w.equals("&") || w.equals("|")) {
                arounds.peek().compared = false;
                pieceDue = true;
            } else {
                return m.start();
            }
            words.add(w);
        }
        return pieceDue || arounds.size() != 1 ? bytes.size() : -1;
    }

    static int value(List<String> words, Object... named) {
        return part(words.subList(1, words.size()), named);
    }

    private static int part(List<String> e, Object[] named) {
        for (String signs : new String[] {"|", "&", "<=>", "+-", "*/"}) {
            int open = 0;
            for (int i = e.size() - 1; i >= 0; i--) {
                String w = e.get(i);
                open += w.equals(")") ? 1 : w.equals("(") ? -1 : 0;
                if (open == 0 && signs.contains(w)) {
                    return joined(w, part(e.subList(0, i), named), part(e.subList(i + 1, e.size()), named));
                }
            }
        }
        if (e.get(0).equals("!")) {
            return part(e.subList(1, e.size()), named) == 0 ? 1 : 0;
        }
        if (e.get(0).equals("(")) {
            return part(e.subList(1, e.size() - 1), named);
        }
        for (int i = 0; i < named.length; i += 2) {
            if (named[i].equals(e.get(0))) {
                return (Integer) named[i + 1];
            }
        }
        return Integer.parseInt(e.get(0));
    }

    private static int joined(String w, int x, int y) {
        boolean is;
        switch (w) {
            case "+": return x + y;
            case "-": return x - y;
            case "*": return x * y;
            case "/": return y == 0 ? 0 : x / y;
            case "<": is = x < y; break;
            case "=": is = x == y; break;
            case ">": is = x > y; break;
            case "&": is = x != 0 & y != 0; break;
            default: is = x != 0 | y != 0; break;
        }
        return is ? 1 : 0;
    }
}
