import java.util.ArrayDeque;
import java.util.Deque;

/**
 * The law's text by other means: faults by a walk over the bytes that knows
 * only what may come next, values by splitting at the loosest sign.
 */
final class ModelLaw {
    /** Where the text breaks, or -1. */
    static int fault(String t) {
        Deque<int[]> outer = new ArrayDeque<>();
        int prefixes = 0;
        int open = 0;
        int digits = 0;
        boolean wantsOne = true;
        boolean compared = false;
        boolean asked = false;
        for (int i = 0; i < t.length(); i++) {
            char c = t.charAt(i);
            if (wantsOne) {
                if ("!-(".indexOf(c) >= 0) {
                    if (open == 6) return i;
                    open++;
                    if (c == '(') {
                        outer.push(new int[] {prefixes, compared ? 1 : 0});
                        prefixes = 0;
                        compared = false;
                    } else {
                        prefixes++;
                    }
                    continue;
                }
                if ("0123456789abxyr".indexOf(c) < 0) return i;
                digits = Character.isDigit(c) ? 1 : 0;
                wantsOne = false;
                open -= prefixes;
                prefixes = 0;
            } else if (c >= '0' && c <= '9') {
                if (digits < 1 || digits > 3) return i;
                digits++;
            } else if (c == ')') {
                if (outer.isEmpty()) return i;
                int[] back = outer.pop();
                open -= 1 + back[0];
                compared = back[1] == 1;
                digits = 0;
            } else {
                if ("*/%+-&|<=>?;".indexOf(c) < 0) return i;
                boolean compares = "<=>".indexOf(c) >= 0;
                if (compares && compared) return i;
                if ((c == '?' || c == ';') && !outer.isEmpty()) return i;
                if (c == '?' && asked) return i;
                asked = c == '?' || asked && c != ';';
                compared = compares || compared && "*/%+-".indexOf(c) >= 0;
                wantsOne = true;
            }
        }
        return wantsOne || !outer.isEmpty() ? t.length() : -1;
    }

    static int value(String t, int a, int b, int x, int y, int r) {
        int[] names = {a, b, x, y, r};
        for (String line : t.split(";")) {
            int cut = line.indexOf('?');
            if (cut < 0) return of(line, names);
            if (of(line.substring(0, cut), names) != 0) return of(line.substring(cut + 1), names);
        }
        return 0;
    }

    private static int of(String e, int[] names) {
        for (String signs : new String[] {"|", "&", "<=>", "+-", "*/%"}) {
            int cut = lastOutside(e, signs);
            if (cut > 0) return join(e.charAt(cut), of(e.substring(0, cut), names), of(e.substring(cut + 1), names));
        }
        char c = e.charAt(0);
        if (c == '!') return of(e.substring(1), names) == 0 ? 1 : 0;
        if (c == '-') return -of(e.substring(1), names);
        if (c == '(') return of(e.substring(1, e.length() - 1), names);
        int name = "abxyr".indexOf(c);
        return name >= 0 ? names[name] : Integer.parseInt(e);
    }

    /** The last of these signs that stands between two values and in no brackets. */
    private static int lastOutside(String e, String signs) {
        int depth = 0;
        for (int i = e.length() - 1; i > 0; i--) {
            char c = e.charAt(i);
            if (c == ')') depth++;
            if (c == '(') depth--;
            boolean isBetween = Character.isLetterOrDigit(e.charAt(i - 1)) || e.charAt(i - 1) == ')';
            if (depth == 0 && isBetween && signs.indexOf(c) >= 0) return i;
        }
        return -1;
    }

    private static int join(char sign, int l, int r) {
        switch (sign) {
            case '|': return (l == 0 ? 0 : 1) | (r == 0 ? 0 : 1);
            case '&': return (l == 0 ? 0 : 1) & (r == 0 ? 0 : 1);
            case '<': return l < r ? 1 : 0;
            case '=': return l == r ? 1 : 0;
            case '>': return l > r ? 1 : 0;
            case '+': return l + r;
            case '-': return l - r;
            case '*': return l * r;
            case '/': return r == 0 ? 0 : l / r;
            default: return r == 0 ? 0 : l % r;
        }
    }

    private ModelLaw() {
    }
}
