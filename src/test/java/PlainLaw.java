import java.util.ArrayDeque;
import java.util.Deque;

/**
 * Laws as texts, in another way than the class has it: the fault by going over the bytes with what is
 * open on a stack, the value by cutting the text at its loosest joint.
 */
final class PlainLaw {
    private final String text;

    PlainLaw(String text) {
        this.text = text;
    }

    /** The place of the fault, or -1. */
    static int fault(String text) {
        Deque<Character> open = new ArrayDeque<>();
        Deque<Boolean> comparedOutside = new ArrayDeque<>();
        boolean wantsOperand = true, compared = false, asked = false;
        int digits = 0;
        for (int k = 0; k < text.length(); k++) {
            char c = text.charAt(k);
            if (wantsOperand) {
                if (c >= '0' && c <= '9' || "dxcnra".indexOf(c) >= 0) {
                    digits = c <= '9' ? 1 : 4;
                    wantsOperand = false;
                    closeSigns(open);
                } else if ("(!-".indexOf(c) >= 0 && open.size() < 6) {
                    open.push(c);
                    if (c == '(') {
                        comparedOutside.push(compared);
                        compared = false;
                    }
                } else {
                    return k;
                }
                continue;
            }
            if (c >= '0' && c <= '9') {
                if (digits >= 4) return k;
                digits++;
                continue;
            }
            digits = 4;
            if (c == ')') {
                if (open.isEmpty()) return k;
                open.pop();
                closeSigns(open);
                compared = comparedOutside.pop();
                continue;
            }
            wantsOperand = true;
            if (c == '|' || c == '&') {
                compared = false;
            } else if (c == '<' || c == '=' || c == '>') {
                if (compared) return k;
                compared = true;
            } else if (c == '?') {
                if (asked || !open.isEmpty()) return k;
                asked = true;
                compared = false;
            } else if (c == ';') {
                if (!open.isEmpty()) return k;
                asked = false;
                compared = false;
            } else if ("+-*/%".indexOf(c) < 0) {
                return k;
            }
        }
        return wantsOperand || !open.isEmpty() ? text.length() : -1;
    }

    private static void closeSigns(Deque<Character> open) {
        while (!open.isEmpty() && open.peek() != '(') open.pop();
    }

    /** In how many of twelve; names are d x c n r a. */
    int twelfths(int d, int x, int c, int n, int r, int a) {
        int[] names = {d, x, c, n, r, a};
        int value = 0;
        for (String line : text.split(";")) {
            int asks = line.indexOf('?');
            if (asks >= 0 && of(line.substring(0, asks), names) == 0) continue;
            value = of(line.substring(asks + 1), names);
            break;
        }
        return value < 0 ? 0 : value > 12 ? 12 : value;
    }

    private static int of(String e, int[] names) {
        for (String joints : new String[] {"|", "&", "<=>", "+-", "*/%"}) {
            int at = lastJoint(e, joints);
            if (at >= 0) return join(e.charAt(at), of(e.substring(0, at), names), of(e.substring(at + 1), names));
        }
        char first = e.charAt(0);
        if (first == '!') return of(e.substring(1), names) == 0 ? 1 : 0;
        if (first == '-') return -of(e.substring(1), names);
        if (first == '(') return of(e.substring(1, e.length() - 1), names);
        if (first >= '0' && first <= '9') return Integer.parseInt(e);
        return names["dxcnra".indexOf(first)];
    }

    private static int lastJoint(String e, String joints) {
        int depth = 0;
        for (int k = e.length() - 1; k > 0; k--) {
            char c = e.charAt(k);
            if (c == ')') depth++;
            if (c == '(') depth--;
            if (depth == 0 && joints.indexOf(c) >= 0 && endsOperand(e.charAt(k - 1))) return k;
        }
        return -1;
    }

    private static boolean endsOperand(char c) {
        return c == ')' || c >= '0' && c <= '9' || "dxcnra".indexOf(c) >= 0;
    }

    private static int join(char joint, int l, int r) {
        switch (joint) {
            case '|': return (l != 0) | (r != 0) ? 1 : 0;
            case '&': return (l != 0) & (r != 0) ? 1 : 0;
            case '<': return l < r ? 1 : 0;
            case '=': return l == r ? 1 : 0;
            case '>': return l > r ? 1 : 0;
            case '+': return l + r;
            case '-': return l - r;
            case '*': return l * r;
            case '/': return r == 0 ? 0 : l / r;
            default: return r == 0 ? 0 : l % r;
        }
    }
}
