/** What the tests share: it counts the answers that are not the ones that are due. */
final class Due {
    private static int right = 0;
    private static int wrong = 0;

    static void is(String call, long got, long want) {
        if (got == want) {
            right++;
            return;
        }
        wrong++;
        if (wrong <= 50) {
            System.out.println(call + " answered " + got + ", due is " + want);
        }
    }

    static void end(String test) {
        System.out.println(test + ": " + right + " answers as due, " + wrong + " not");
        if (wrong != 0) {
            System.exit(1);
        }
    }

    /** A new cabinet with so many plain cards. */
    static TenInDrawers cabinet(int cards) {
        TenInDrawers x = new TenInDrawers();
        for (int i = 0; i < cards; i++) {
            x.card();
        }
        return x;
    }

    /** Tells the ten sorts of a card: a digit for each finger. */
    static void sorts(TenInDrawers x, int card, String digits) {
        for (int f = 0; f < digits.length(); f++) {
            x.mend(100 * card + f, 0, digits.charAt(f) - '0');
        }
    }

    static void ridges(TenInDrawers x, int card, int... counts) {
        for (int f = 0; f < counts.length; f++) {
            x.mend(100 * card + f, 1, counts[f]);
        }
    }

    static void feed(TenInDrawers x, String text) {
        for (int i = 0; i < text.length(); i++) {
            x.feed(text.charAt(i));
        }
    }

    static int law(TenInDrawers x, String text) {
        feed(x, text);
        return x.law();
    }

    /** Lays a row of a sort with these elements on a shelf. */
    static void row(TenInDrawers x, int shelf, int sort, long... elements) {
        x.row(shelf, sort, elements.length);
        for (int i = 0; i < elements.length; i++) {
            x.put(shelf, i, elements[i]);
        }
    }
}
