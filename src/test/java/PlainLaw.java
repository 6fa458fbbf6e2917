import java.util.ArrayDeque;

/** A law, worked out from its text by cutting it where it binds least, and its fault by an automaton. */
final class PlainLaw {
    private static final String NAMES = "wdbofy";

    private PlainLaw() {
    }

    /** The place of the first letter with which no text goes on; the length, if it ends too early; -1: none. */
    static int fault(String text) {
        ArrayDeque<Character> open = new ArrayDeque<>();
        ArrayDeque<Boolean> compared = new ArrayDeque<>();
        compared.push(false);
        boolean asked = false;
        boolean wanted = true;
        int digits = 0;
        for (int i = 0; i < text.length(); i++) {
            char c = text.charAt(i);
            if (wanted) {
                if (c >= '0' && c <= '9') {
                    digits = 1;
                    wanted = false;
                    close(open);
                } else if (NAMES.indexOf(c) >= 0) {
                    digits = 0;
                    wanted = false;
                    close(open);
                } else if ((c == '(' || c == '!' || c == '-') && open.size() < 6) {
                    open.push(c);
                    if (c == '(') {
                        compared.push(false);
                    }
                } else {
                    return i;
                }
                continue;
            }
            if (c >= '0' && c <= '9' && digits > 0 && digits < 4) {
                digits++;
                continue;
            }
            digits = 0;
            if (c == '|' || c == '&') {
                compared.pop();
                compared.push(false);
                wanted = true;
            } else if ((c == '<' || c == '=' || c == '>') && !compared.peek()) {
                compared.pop();
                compared.push(true);
                wanted = true;
            } else if ("+-*/%".indexOf(c) >= 0) {
                wanted = true;
            } else if (c == ')' && !open.isEmpty()) {
                open.pop();
                compared.pop();
                close(open);
            } else if (c == '?' && open.isEmpty() && !asked || c == ';' && open.isEmpty()) {
                asked = c == '?';
                compared.pop();
                compared.push(false);
                wanted = true;
            } else {
                return i;
            }
        }
        return wanted || !open.isEmpty() ? text.length() : -1;
    }

    private static void close(ArrayDeque<Character> open) {
        while (!open.isEmpty() && open.peek() != '(') {
            open.pop();
        }
    }

    static int worth(String law, int... facts) {
        for (String line : law.split(";")) {
            int ask = line.indexOf('?');
            if (ask < 0) {
                return value(line, facts);
            }
            if (value(line.substring(0, ask), facts) != 0) {
                return value(line.substring(ask + 1), facts);
            }
        }
        return 0;
    }

    private static int value(String e, int[] facts) {
        for (String operators : new String[] {"|", "&", "<=>", "+-", "*/%"}) {
            int cut = lastCut(e, operators);
            if (cut >= 0) {
                return join(e.charAt(cut), value(e.substring(0, cut), facts), value(e.substring(cut + 1), facts));
            }
        }
        char c = e.charAt(0);
        if (c == '(') {
            return value(e.substring(1, e.length() - 1), facts);
        }
        if (c == '!') {
            return value(e.substring(1), facts) == 0 ? 1 : 0;
        }
        if (c == '-') {
            return -value(e.substring(1), facts);
        }
        return NAMES.indexOf(c) >= 0 ? facts[NAMES.indexOf(c)] : Integer.parseInt(e);
    }

    /** The last of these operators between two operands, outside of all brackets. */
    private static int lastCut(String e, String operators) {
        int depth = 0;
        for (int i = e.length() - 1; i > 0; i--) {
            char c = e.charAt(i);
            depth += c == ')' ? 1 : c == '(' ? -1 : 0;
            char ahead = e.charAt(i - 1);
            boolean behindOperand = ahead == ')' || Character.isDigit(ahead) || NAMES.indexOf(ahead) >= 0;
            if (depth == 0 && operators.indexOf(c) >= 0 && behindOperand) {
                return i;
            }
        }
        return -1;
    }

    private static int join(char c, int a, int b) {
        return switch (c) {
            case '|' -> a != 0 || b != 0 ? 1 : 0;
            case '&' -> a != 0 && b != 0 ? 1 : 0;
            case '<' -> a < b ? 1 : 0;
            case '=' -> a == b ? 1 : 0;
            case '>' -> a > b ? 1 : 0;
            case '+' -> a + b;
            case '-' -> a - b;
            case '*' -> a * b;
            case '/' -> b == 0 ? 0 : a / b;
            default -> b == 0 ? 0 : a % b;
        };
    }
}
