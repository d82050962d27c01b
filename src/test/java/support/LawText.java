import java.util.ArrayList;
import java.util.List;
import java.util.Map;

/** The law's grammar read in another way than the class does: by splitting a whole text at its weakest signs. */
final class LawText {
    private static final int MOST_OPEN = 6;

    private LawText() {
    }

    /** The first byte with which no text goes on; the length, if it ends too early; -1, if it is a text. */
    static int fault(String text) {
        for (int i = 0; i < text.length(); i++) {
            if (!goesOn(text.substring(0, i + 1))) {
                return i;
            }
        }
        return isText(text) ? -1 : text.length();
    }

    private static boolean goesOn(String begun) {
        for (String operand : new String[] {"", "v"}) {
            for (int closed = 0; closed <= MOST_OPEN; closed++) {
                if (isText(begun + operand + ")".repeat(closed))) {
                    return true;
                }
            }
        }
        return false;
    }

    static boolean isText(String text) {
        for (String line : split(text, ";")) {
            List<String> halves = split(line, "?");
            if (halves.size() > 2 || !halves.stream().allMatch(e -> isPart(e, 0, 0))) {
                return false;
            }
        }
        return true;
    }

    private static final String[] SIGNS = {"|", "&", "<=>", "+-", "*/%"};

    private static boolean isPart(String part, int level, int open) {
        if (level == SIGNS.length) {
            return isOperand(part, open);
        }
        List<String> parts = split(part, SIGNS[level]);
        return (level != 2 || parts.size() <= 2) && parts.stream().allMatch(p -> isPart(p, level + 1, open));
    }

    private static boolean isOperand(String o, int open) {
        if (o.matches("[0-9]{1,4}|[vngtkd]")) {
            return true;
        }
        if (o.isEmpty() || open == MOST_OPEN) {
            return false;
        }
        if (o.charAt(0) == '!' || o.charAt(0) == '-') {
            return isOperand(o.substring(1), open + 1);
        }
        return o.charAt(0) == '(' && o.endsWith(")") && o.length() > 2
            && isPart(o.substring(1, o.length() - 1), 0, open + 1);
    }

    /** Splits where one of the signs stands outside of brackets behind an operand's end. */
    private static List<String> split(String text, String signs) {
        List<String> parts = new ArrayList<>();
        int depth = 0;
        int begin = 0;
        for (int i = 0; i < text.length(); i++) {
            char c = text.charAt(i);
            depth += c == '(' ? 1 : c == ')' ? -1 : 0;
            boolean behindOperand = i > 0 && "0123456789vngtkd)".indexOf(text.charAt(i - 1)) >= 0;
            if (depth == 0 && signs.indexOf(c) >= 0 && (behindOperand || c != '-')) {
                parts.add(text.substring(begin, i));
                begin = i + 1;
            }
        }
        parts.add(text.substring(begin));
        return parts;
    }

    static int loss(String text, Map<Character, Integer> names) {
        for (String line : split(text, ";")) {
            List<String> halves = split(line, "?");
            if (halves.size() == 1) {
                return held(value(line, 0, names));
            }
            if (value(halves.get(0), 0, names) != 0) {
                return held(value(halves.get(1), 0, names));
            }
        }
        return 0;
    }

    private static int held(int loss) {
        return loss > 99 ? 99 : loss < -99 ? -99 : loss;
    }

    private static int value(String part, int level, Map<Character, Integer> names) {
        if (level == SIGNS.length) {
            return operand(part, names);
        }
        List<String> parts = split(part, SIGNS[level]);
        int at = parts.get(0).length();
        int all = value(parts.get(0), level + 1, names);
        for (String next : parts.subList(1, parts.size())) {
            all = joined(part.charAt(at), all, value(next, level + 1, names));
            at += 1 + next.length();
        }
        return all;
    }

    private static int operand(String o, Map<Character, Integer> names) {
        char c = o.charAt(0);
        if (c == '!') {
            return operand(o.substring(1), names) == 0 ? 1 : 0;
        }
        if (c == '-') {
            return -operand(o.substring(1), names);
        }
        if (c == '(') {
            return value(o.substring(1, o.length() - 1), 0, names);
        }
        return names.containsKey(c) ? names.get(c) : Integer.parseInt(o);
    }

    private static int joined(char sign, int a, int b) {
        switch (sign) {
            case '|': return (a != 0) || (b != 0) ? 1 : 0;
            case '&': return (a != 0) && (b != 0) ? 1 : 0;
            case '<': return a < b ? 1 : 0;
            case '=': return a == b ? 1 : 0;
            case '>': return a > b ? 1 : 0;
            case '+': return a + b;
            case '-': return a - b;
            case '*': return a * b;
            case '/': return b == 0 ? 0 : a / b;
            case '%': return b == 0 ? 0 : a % b;
            default: throw new IllegalStateException("sign " + sign);
        }
    }
}
