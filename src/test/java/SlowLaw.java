/**
 * THE LAW once more, in another way than the class has it: a text is judged byte by byte with a pile of what is
 * open, and worked out by cutting it at its loosest sign.
 */
final class SlowLaw {
    private static final String NAMES = "whmksp";

    private SlowLaw() {
    }

    /** The FAULT, or -1. */
    static int fault(String text) {
        StringBuilder open = new StringBuilder();
        boolean wants = true, compared = false, asked = false;
        int digits = 0;
        for (int i = 0; i < text.length(); i++) {
            char c = text.charAt(i);
            if (wants) {
                if (c >= '0' && c <= '9' || NAMES.indexOf(c) >= 0) {
                    digits = NAMES.indexOf(c) >= 0 ? 99 : 1;
                    closeSigns(open);
                    wants = false;
                } else if ((c == '!' || c == '-') && open.length() < 6) {
                    open.append('s');
                } else if (c == '(' && open.length() < 6) {
                    open.append(compared ? 'C' : 'c');
                    compared = false;
                } else {
                    return i;
                }
            } else if (c >= '0' && c <= '9') {
                if (++digits > 4) return i;
            } else if ("+-*/%".indexOf(c) >= 0) {
                wants = true;
            } else if ("<=>".indexOf(c) >= 0) {
                if (compared) return i;
                compared = true;
                wants = true;
            } else if (c == '&' || c == '|') {
                compared = false;
                wants = true;
            } else if (c == ')') {
                if (open.length() == 0) return i;
                compared = open.charAt(open.length() - 1) == 'C';
                open.setLength(open.length() - 1);
                closeSigns(open);
                digits = 99;
            } else if (c == '?' || c == ';') {
                if (open.length() != 0 || c == '?' && asked) return i;
                asked = c == '?';
                compared = false;
                wants = true;
            } else {
                return i;
            }
        }
        return wants || open.length() != 0 ? text.length() : -1;
    }

    private static void closeSigns(StringBuilder open) {
        while (open.length() > 0 && open.charAt(open.length() - 1) == 's') open.setLength(open.length() - 1);
    }

    static int worth(String text, int... names) {
        for (String line : text.split(";")) {
            int mark = line.indexOf('?');
            if (mark < 0) return value(line, names);
            if (value(line.substring(0, mark), names) != 0) return value(line.substring(mark + 1), names);
        }
        return 0;
    }

    private static int value(String e, int[] names) {
        for (String signs : new String[] {"|", "&", "<=>", "+-", "*/%"}) {
            int cut = lastOutside(e, signs);
            if (cut >= 0) return both(e.charAt(cut), value(e.substring(0, cut), names), value(e.substring(cut + 1), names));
        }
        char c = e.charAt(0);
        if (c == '!') return value(e.substring(1), names) == 0 ? 1 : 0;
        if (c == '-') return -value(e.substring(1), names);
        if (c == '(') return value(e.substring(1, e.length() - 1), names);
        return NAMES.indexOf(c) >= 0 ? names[NAMES.indexOf(c)] : Integer.parseInt(e);
    }

    /** The last such sign outside all brackets with an operand ahead of it. */
    private static int lastOutside(String e, String signs) {
        int open = 0;
        for (int i = e.length() - 1; i > 0; i--) {
            char c = e.charAt(i), before = e.charAt(i - 1);
            if (c == ')') open++;
            if (c == '(') open--;
            boolean isBehindOperand = before == ')' || Character.isLetterOrDigit(before);
            if (open == 0 && signs.indexOf(c) >= 0 && isBehindOperand) return i;
        }
        return -1;
    }

    private static int both(char sign, int a, int b) {
        switch (sign) {
            case '|': return (a != 0 ? 1 : 0) | (b != 0 ? 1 : 0);
            case '&': return (a != 0 ? 1 : 0) & (b != 0 ? 1 : 0);
            case '<': return Integer.compare(a, b) < 0 ? 1 : 0;
            case '=': return Integer.compare(a, b) == 0 ? 1 : 0;
            case '>': return Integer.compare(a, b) > 0 ? 1 : 0;
            case '+': return (int) ((long) a + b);
            case '-': return (int) ((long) a - b);
            case '*': return (int) ((long) a * b);
            case '/': return b == 0 ? 0 : (int) ((long) a / b);
            default: return b == 0 ? 0 : (int) ((long) a % b);
        }
    }
}
