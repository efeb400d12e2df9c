import java.util.Map;
import java.util.TreeMap;

/** A text of the law, matched by its grammar in all ways at once: slow, and unlike the program's own reading. */
final class OracleText {
    private static final int MOST_OPEN = 6;
    private static final String LEAST_OPERAND = "d";

    private final String text;
    private final Map<Character, Integer> names;

    private OracleText(String text, Map<Character, Integer> names) {
        this.text = text;
        this.names = names;
    }

    /** Where a part that begins at one place may end, and what it is worth by then. */
    private static final class Ends extends TreeMap<Integer, Integer> {
        private static final long serialVersionUID = 1L;
    }

    static boolean isText(String text) {
        Map<Character, Integer> none = new TreeMap<>();
        for (char name : "dgqzswf".toCharArray()) {
            none.put(name, 0);
        }
        for (String line : text.split(";", -1)) {
            String[] parts = line.split("\\?", -1);
            if (parts.length > 2) {
                return false;
            }
            for (String part : parts) {
                if (!new OracleText(part, none).level(0, 0, 0).containsKey(part.length())) {
                    return false;
                }
            }
        }
        return true;
    }

    /** The first place whose byte no text goes on with: each text begun can be ended by an operand and brackets. */
    static int faultOf(String text) {
        for (int k = 0; k < text.length(); k++) {
            if (!goesOn(text.substring(0, k + 1))) {
                return k;
            }
        }
        return isText(text) ? -1 : text.length();
    }

    private static boolean goesOn(String begun) {
        for (int brackets = 0; brackets <= MOST_OPEN; brackets++) {
            String close = ")".repeat(brackets);
            if (isText(begun + close) || isText(begun + LEAST_OPERAND + close)) {
                return true;
            }
        }
        return false;
    }

    static int worth(String text, int[] values) {
        Map<Character, Integer> names = new TreeMap<>();
        for (int k = 0; k < values.length; k++) {
            names.put("dgqzswf".charAt(k), values[k]);
        }
        for (String line : text.split(";", -1)) {
            String[] parts = line.split("\\?", -1);
            int first = whole(parts[0], names);
            if (parts.length == 1) {
                return first;
            }
            if (first != 0) {
                return whole(parts[1], names);
            }
        }
        return 0;
    }

    private static int whole(String part, Map<Character, Integer> names) {
        return new OracleText(part, names).level(0, 0, 0).get(part.length());
    }

    private static final String[] SIGNS = {"|", "&", "<=>", "+-", "*/%"};

    private Ends level(int level, int from, int open) {
        if (level == SIGNS.length) {
            return operand(from, open);
        }
        Ends ends = level(level + 1, from, open);
        Ends latest = new Ends();
        latest.putAll(ends);
        while (!latest.isEmpty()) {
            Ends on = new Ends();
            for (Map.Entry<Integer, Integer> end : latest.entrySet()) {
                int at = end.getKey();
                if (at < text.length() && SIGNS[level].indexOf(text.charAt(at)) >= 0) {
                    for (Map.Entry<Integer, Integer> more : level(level + 1, at + 1, open).entrySet()) {
                        on.put(more.getKey(), joined(end.getValue(), text.charAt(at), more.getValue()));
                    }
                }
            }
            ends.putAll(on);
            latest = level == 2 ? new Ends() : on;
        }
        return ends;
    }

    private Ends operand(int from, int open) {
        Ends ends = new Ends();
        for (int to = from + 1; to <= Math.min(from + 4, text.length()); to++) {
            if (!Character.isDigit(text.charAt(to - 1)) || text.charAt(to - 1) > '9') {
                break;
            }
            ends.put(to, Integer.parseInt(text.substring(from, to)));
        }
        if (from >= text.length()) {
            return ends;
        }
        char sign = text.charAt(from);
        if (names.containsKey(sign)) {
            ends.put(from + 1, names.get(sign));
        }
        if (open < MOST_OPEN && sign == '(') {
            for (Map.Entry<Integer, Integer> end : level(0, from + 1, open + 1).entrySet()) {
                if (end.getKey() < text.length() && text.charAt(end.getKey()) == ')') {
                    ends.put(end.getKey() + 1, end.getValue());
                }
            }
        }
        if (open < MOST_OPEN && (sign == '!' || sign == '-')) {
            for (Map.Entry<Integer, Integer> end : operand(from + 1, open + 1).entrySet()) {
                int v = end.getValue();
                ends.put(end.getKey(), sign == '-' ? -v : v == 0 ? 1 : 0);
            }
        }
        return ends;
    }

    private static int joined(int a, char sign, int b) {
        switch (sign) {
            case '|': return a != 0 || b != 0 ? 1 : 0;
            case '&': return a != 0 && b != 0 ? 1 : 0;
            case '<': return a < b ? 1 : 0;
            case '=': return a == b ? 1 : 0;
            case '>': return a > b ? 1 : 0;
            case '+': return (int) ((long) a + b);
            case '-': return (int) ((long) a - b);
            case '*': return (int) ((long) a * b);
            case '/': return b == 0 ? 0 : (int) ((long) a / b);
            default: return b == 0 ? 0 : (int) ((long) a % b);
        }
    }
}
