/**
 * Promises 7 and 8 by drawn texts: texts made together with what they come to, and spoilt texts whose fault a machine
 * finds that reads byte by byte and keeps only what is open.
 */
final class LawTest {
    private final Draws draws;
    private final StringBuilder text = new StringBuilder();
    private int[] named;

    public static void main(String[] args) {
        for (int seed = 0; seed < 3000; seed++) {
            new LawTest(seed).outcome();
            new LawTest(seed).fault();
        }
        Due.end("LawTest");
    }

    private LawTest(int seed) {
        draws = new Draws(seed);
    }

    private void outcome() {
        int f = draws.below(10);
        int s = draws.below(6);
        int t = draws.below(6);
        int r = draws.below(31);
        int n = draws.below(10);
        int other = draws.below(31 - r);
        TenInDrawers x = Due.cabinet(2);
        x.mend(f, 0, s);
        x.mend(100 + f, 0, t);
        x.mend(f, 1, draws.below(2) == 0 ? other : other + r);
        x.mend(100 + f, 1, x.of(f, 1) == other ? other + r : other);
        x.mend(0, 2, n);
        String[] sets = {"0", "1", "2", "3", "13", "0123"};
        boolean same = false;
        for (char c : sets[s].toCharArray()) {
            same |= sets[t].indexOf(c) >= 0;
        }
        named = new int[] {f, s, t, r, same ? 1 : 0, n};
        int v = lines();
        if (text.length() <= 120) {
            Due.is("law " + text, Due.law(x, text.toString()), 1);
            Due.is("by " + text + " of " + java.util.Arrays.toString(named), x.alike(1, f), Math.max(0, Math.min(99, v)));
        }
    }

    private int lines() {
        int lines = draws.between(1, 4);
        boolean done = false;
        int v = 0;
        for (int i = 0; i < lines; i++) {
            text.append(i == 0 ? "" : ";");
            int first = eithers(0);
            boolean asks = draws.below(4) > 0;
            int second = first;
            if (asks) {
                text.append('?');
                second = eithers(0);
            }
            if (!done && (!asks || first != 0)) {
                done = true;
                v = second;
            }
        }
        return v;
    }

    private int eithers(int open) {
        int v = boths(open);
        while (draws.below(6) == 0) {
            text.append('|');
            int w = boths(open);
            v = v != 0 | w != 0 ? 1 : 0;
        }
        return v;
    }

    private int boths(int open) {
        int v = compared(open);
        while (draws.below(6) == 0) {
            text.append('&');
            int w = compared(open);
            v = v != 0 & w != 0 ? 1 : 0;
        }
        return v;
    }

    private int compared(int open) {
        int v = sum(open);
        char sign = "<=>.......".charAt(draws.below(10));
        if (sign == '.') {
            return v;
        }
        text.append(sign);
        int w = sum(open);
        return (sign == '<' ? v < w : sign == '=' ? v == w : v > w) ? 1 : 0;
    }

    private int sum(int open) {
        int v = product(open);
        while (draws.below(3) == 0) {
            boolean plus = draws.below(2) == 0;
            text.append(plus ? '+' : '-');
            int w = product(open);
            v = plus ? v + w : v - w;
        }
        return v;
    }

    private int product(int open) {
        int v = operand(open);
        while (draws.below(4) == 0) {
            char sign = "*/%".charAt(draws.below(3));
            text.append(sign);
            int w = operand(open);
            v = sign == '*' ? v * w : w == 0 ? 0 : sign == '/' ? v / w : v % w;
        }
        return v;
    }

    private int operand(int open) {
        int kind = draws.below(open < 6 ? 12 : 9);
        if (kind < 4) {
            int v = draws.of(0, 1, 2, 3, 7, 10, 99, 9999, draws.below(10000));
            text.append(v);
            return v;
        }
        if (kind < 9) {
            int name = draws.below(6);
            text.append("fstrkn".charAt(name));
            return named[name];
        }
        text.append("(!-".charAt(kind - 9));
        if (kind == 9) {
            int v = eithers(open + 1);
            text.append(')');
            return v;
        }
        int v = operand(open + 1);
        return kind == 11 ? -v : v == 0 ? 1 : 0;
    }

    private void fault() {
        named = new int[6];
        lines();
        int spoils = draws.below(4);
        for (int i = 0; i < spoils && text.length() > 0; i++) {
            spoil();
        }
        text.setLength(Math.min(text.length(), 120));
        TenInDrawers x = new TenInDrawers();
        int place = firstFault(text.toString());
        Due.is("fault of " + text, Due.law(x, text.toString()), place < 0 ? 1 : -100 - place);
    }

    private void spoil() {
        int at = draws.below(text.length());
        char c = "0123456789fstrkn()!-+*/%<=>&|?; xA".charAt(draws.below(34));
        switch (draws.below(5)) {
            case 0:
                text.deleteCharAt(at);
                break;
            case 1:
                text.setCharAt(at, c);
                break;
            case 2:
                text.setLength(at);
                break;
            default:
                text.insert(at, c);
        }
    }

    /** The fault by the words: -1 if there is none. */
    private static int firstFault(String bytes) {
        StringBuilder open = new StringBuilder();
        // By level of ( : whether a comparison stands in this B already.
        boolean[] compared = new boolean[8];
        int level = 0;
        boolean wants = true;
        boolean asked = false;
        int digits = 0;
        for (int i = 0; i < bytes.length(); i++) {
            char c = bytes.charAt(i);
            boolean digit = c >= '0' && c <= '9';
            if (wants) {
                if (c == '(' || c == '!' || c == '-') {
                    if (open.length() == 6) {
                        return i;
                    }
                    open.append(c);
                    level += c == '(' ? 1 : 0;
                    compared[level] = c != '(' && compared[level];
                } else if (digit || "fstrkn".indexOf(c) >= 0) {
                    digits = digit ? 1 : 0;
                    wants = false;
                    closeSigns(open);
                } else {
                    return i;
                }
            } else if (digit) {
                if (digits == 0 || digits == 4) {
                    return i;
                }
                digits++;
            } else {
                digits = 0;
                if (c == ')') {
                    if (open.length() == 0) {
                        return i;
                    }
                    open.setLength(open.length() - 1);
                    level--;
                    closeSigns(open);
                } else if ("+-*/%&|".indexOf(c) >= 0) {
                    wants = true;
                    compared[level] = c != '&' && c != '|' && compared[level];
                } else if ("<=>".indexOf(c) >= 0 && !compared[level]) {
                    wants = true;
                    compared[level] = true;
                } else if (level == 0 && (c == ';' || c == '?' && !asked)) {
                    wants = true;
                    asked = c == '?';
                    compared[0] = false;
                } else {
                    return i;
                }
            }
        }
        return wants || level > 0 ? bytes.length() : -1;
    }

    private static void closeSigns(StringBuilder open) {
        while (open.length() > 0 && open.charAt(open.length() - 1) != '(') {
            open.setLength(open.length() - 1);
        }
    }
}
