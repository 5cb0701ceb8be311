/** The edges of promises 26 to 31: rows with nothing, with ten and with more, bytes that are no sorts, half a two, seeds. */
final class InkedEdgesTest {
    private static final int MOST = Integer.MAX_VALUE, LEAST = Integer.MIN_VALUE;

    public static void main(String[] args) {
        rowsOfEachLength();
        bytes();
        eachFinger();
        rowRefusals();
        cardRefusals();
        mendedDrawers();
        mendedRefused();
        judgedTwos();
        judgedBounds();
        clerkFingers();
        clerkSoWithout();
        drawnBounds();
        drawnSeeds();
        drawnSorts();
        Due.end("InkedEdgesTest");
    }

    /** As far as it goes; more than ten do not count. */
    private static void rowsOfEachLength() {
        for (int length = 0; length <= 60; length++) {
            TenInDrawers x = Due.cabinet(12);
            x.row(0, 0, length);
            for (int i = 0; i < length; i++) {
                x.put(0, i, i < 10 ? 1 : i % 2 == 0 ? 3 : -1);
            }
            Due.is("26: " + length + " bytes, of which ten count", x.who(0), 4095);
            Due.is("27: " + length + " bytes, of which ten count", x.isTrue(0, 11), -2);
            Due.is("26: it is there, with " + length, x.who(0) >= 0 ? 1 : 0, 1);
            if (length > 0) {
                int last = Math.min(length, 10) - 1;
                x.put(0, last, 2);
                Due.is("26: the last that counts of " + length, x.who(0), 0);
                Due.is("27: the last that counts of " + length, x.isTrue(0, 0), last);
            }
        }
        TenInDrawers x = new TenInDrawers();
        x.row(0, 0, 10);
        Due.is("26: no CARDS", x.who(0), 0);
        Due.is("27: no CARDS", x.isTrue(0, 0), -1);
    }

    /** What is no SORT 0 .. 5 is not so of any finger; what is one is so by what both may be. */
    private static void bytes() {
        int[] mayBe = {1, 2, 4, 8, 2 + 8, 1 + 2 + 4 + 8};
        for (int told : new int[] {-128, -2, -1, 0, 1, 2, 3, 4, 5, 6, 7, 127}) {
            for (int sort = 0; sort <= 5; sort++) {
                TenInDrawers x = Due.cabinet(1);
                x.mend(0, 0, sort);
                Due.row(x, 5, 0, told);
                boolean so = told >= 0 && told <= 5 && (mayBe[told] & mayBe[sort]) != 0;
                Due.is("26: " + told + " inked of SORT " + sort, x.who(5), so ? 1 : 0);
                Due.is("27: " + told + " inked of SORT " + sort, x.isTrue(5, 0), so ? -2 : 0);
            }
        }
    }

    private static void eachFinger() {
        for (int f = 0; f <= 9; f++) {
            TenInDrawers x = Due.cabinet(12);
            Due.row(x, 0, 0, 1, 1, 1, 1, 1, 1, 1, 1, 1, 1);
            x.mend(f, 0, 0);
            x.mend(1100 + f, 0, 2);
            Due.is("26: all but those of which FINGER " + f + " is not so", x.who(0), 2046);
            Due.is("27: the first FINGER is " + f, x.isTrue(0, 0), f);
            x.put(0, 9, 6);
            Due.is("27: of two the first", x.isTrue(0, 11), f);
            Due.is("27: the one alone", x.isTrue(0, 5), 9);
        }
    }

    /** By shelf: 0 nothing, 1 a PRINT, 2 bytes, 3 shorts, 4 ints, 5 longs; then booleans on 5. */
    private static void rowRefusals() {
        TenInDrawers x = Due.cabinet(1);
        x.body(0);
        x.keep(1, 0);
        for (int sort = 0; sort <= 3; sort++) {
            x.row(2 + sort, sort, 0);
        }
        int[][] due = {{LEAST, -1, -1, -1}, {-1, -1, -1, -1}, {0, -11, -11, -11}, {1, -12, -12, -12}, {2, 1, -12, -12}, {3, -12, -2, -3},
            {4, -12, -12, -12}, {5, -12, -12, -12}, {6, -1, -1, -1}, {MOST, -1, -1, -1}};
        for (int[] d : due) {
            Due.is("26: who(" + d[0] + ")", x.who(d[0]), d[1]);
            Due.is("27: isTrue(" + d[0] + ", 0)", x.isTrue(d[0], 0), d[1] == 1 ? -2 : d[1]);
            Due.is("29: judge(" + d[0] + ")", x.judge(d[0]), d[2]);
            Due.is("30: clerk(" + d[0] + ")", x.clerk(d[0]), d[3]);
        }
        x.row(5, 4, 20);
        Due.is("26: booleans", x.who(5), -12);
        Due.is("27: booleans", x.isTrue(5, 0), -12);
        Due.is("29: booleans", x.judge(5), -12);
        Due.is("30: booleans", x.clerk(5), -12);
        x.keep(2, -1);
        Due.is("26: nothing any more", x.who(2), -11);
        Due.is("27: nothing any more", x.isTrue(2, 0), -11);
    }

    private static void cardRefusals() {
        for (int cards : new int[] {0, 1, 12}) {
            TenInDrawers x = Due.cabinet(cards);
            x.body(0);
            x.keep(1, 0);
            x.row(2, 0, 10);
            for (int i = 0; i < 10; i++) {
                x.put(2, i, 1);
            }
            for (int c : new int[] {-1, 0, 1, 11, 12, MOST, LEAST}) {
                boolean there = c >= 0 && c < cards;
                String of = ", card " + c + " of " + cards;
                Due.is("27: a row of bytes" + of, x.isTrue(2, c), there ? -2 : -1);
                Due.is("27: BAD ahead of -11" + of, x.isTrue(0, c), there ? -11 : -1);
                Due.is("27: BAD ahead of -12" + of, x.isTrue(1, c), there ? -12 : -1);
                Due.is("27: no shelf" + of, x.isTrue(6, c), -1);
            }
        }
    }

    private static void mendedDrawers() {
        TenInDrawers x = Due.cabinet(3);
        Due.sorts(x, 1, "3333333333");
        Due.sorts(x, 2, "5454545454");
        Due.is("28: none must be otherwise", x.mended(0, 0, 0), 0);
        Due.is("28: none, which", x.mended(0, 0, 1), 0);
        Due.is("28: all must be WHORLS", x.mended(0, 1023, 0), 10);
        Due.is("28: all, which", x.mended(0, 1023, 1), 1023);
        Due.is("28: no WHORL may be one", x.mended(1, 0, 0), 10);
        Due.is("28: no WHORL may be one, which", x.mended(1, 0, 1), 1023);
        Due.is("28: all are WHORLS", x.mended(1, 1023, 0), 0);
        int[] worth = {512, 16, 256, 8, 128, 4, 64, 2, 32, 1};
        for (int f = 0; f <= 9; f++) {
            Due.is("28: just FINGER " + f, x.mended(0, worth[f], 1), 1 << f);
            Due.is("28: just FINGER " + f + " less", x.mended(1, 1023 - worth[f], 1), 1 << f);
            Due.is("28: one", x.mended(0, worth[f], 0), 1);
            Due.is("28: as it needs, FINGER " + f, x.mended(2, worth[f], 0), 0);
            Due.is("28: as it needs, which", x.mended(2, 1023 - worth[f], 1), 0);
        }
    }

    private static void mendedRefused() {
        for (int cards : new int[] {0, 1, 12}) {
            TenInDrawers x = Due.cabinet(cards);
            for (int c : new int[] {-1, 0, 1, 11, 12, MOST, LEAST}) {
                for (int d : new int[] {-1, 0, 1023, 1024, MOST, LEAST}) {
                    for (int what : new int[] {-1, 0, 1, 2, MOST, LEAST}) {
                        boolean there = c >= 0 && c < cards && (d == 0 || d == 1023) && (what == 0 || what == 1);
                        int due = !there ? -1 : d == 0 ? 0 : what == 0 ? 10 : 1023;
                        Due.is("28: mended(" + c + ", " + d + ", " + what + ") of " + cards, x.mended(c, d, what), due);
                    }
                }
            }
        }
    }

    /** Rows of 0 to 60 shorts that are all so: half a two at the end lacks; each two by turns is made wrong. */
    private static void judgedTwos() {
        for (int length = 0; length <= 60; length++) {
            TenInDrawers x = Due.cabinet(2);
            x.mend(100, 0, 3);
            x.row(0, 1, length);
            for (int i = 0; i < length; i++) {
                x.put(0, i, i % 4 == 2 ? 1 : i % 4 == 3 ? 512 : 0);
            }
            Due.is("29: all so, half a two lacks: " + length, x.judge(0), length % 2 == 0 ? -2 : length / 2);
            Due.is("30: all so, half a two lacks: " + length, x.clerk(0), length % 2 == 0 ? -3 : -2);
            for (int i = length / 2 - 1; i >= 0; i -= 7) {
                x.put(0, 2 * i + 1, 3);
                Due.is("29: the first two that is not so of " + length, x.judge(0), i);
            }
        }
    }

    private static void judgedBounds() {
        // CARD, DRAWER, JUDGED, and WHICH WRONG if FINGER 1 (16) was read the other way: what is none is not so.
        int[][] due = {{0, 0, -2, 1}, {11, 1023, -2, 1}, {12, 0, 0, -2}, {-1, 0, 0, -2}, {100, 0, 0, -2}, {32767, 0, 0, -2},
            {-32768, 0, 0, -2}, {10, 1024, 0, -2}, {10, -1, 0, -2}, {10, 1023, -2, -3}, {11, 1022, 0, -2}, {10, 0, -2, -3},
            {10, 32767, 0, -2}, {10, -32768, 0, -2}, {10, -1024, 0, -2}, {0, 1023, 0, -2}};
        for (int[] d : due) {
            TenInDrawers x = Due.cabinet(12);
            Due.sorts(x, 10, "5555555555");
            Due.sorts(x, 11, "3333333333");
            Due.row(x, 3, 1, d[0], d[1]);
            Due.is("29: CARD " + d[0] + " in DRAWER " + d[1], x.judge(3), d[2]);
            Due.row(x, 3, 1, 0, 0, d[0], d[1], 0, 0);
            Due.is("29: as the second two, CARD " + d[0] + " in " + d[1], x.judge(3), d[2] == -2 ? -2 : 1);
            Due.row(x, 3, 1, d[0], d[1] ^ 16);
            Due.is("30: FINGER 1 the other way, CARD " + d[0] + " in " + d[1], x.clerk(3), d[3]);
        }
        TenInDrawers x = new TenInDrawers();
        Due.row(x, 0, 1, 0, 0);
        Due.is("29: no CARDS", x.judge(0), 0);
        Due.is("30: no CARDS", x.clerk(0), -2);
        x.row(0, 1, 0);
        Due.is("29: no CARDS, no twos", x.judge(0), -2);
        Due.is("30: no CARDS, no twos", x.clerk(0), -3);
        TenInDrawers y = Due.cabinet(1);
        y.file(0, 7);
        Due.row(y, 0, 1, 0, 7);
        Due.is("29: by its DRAWERS, not where it is FILED", y.judge(0), 0);
    }

    private static void clerkFingers() {
        int[] worth = {512, 16, 256, 8, 128, 4, 64, 2, 32, 1};
        for (int f = 0; f <= 9; f++) {
            TenInDrawers x = Due.cabinet(3);
            Due.sorts(x, 1, "3333333333");
            Due.row(x, 0, 1, 0, worth[f], 1, 1023 - worth[f], 0, worth[f]);
            Due.is("30: FINGER " + f + " the other way", x.clerk(0), f);
            x.put(0, 5, 0);
            Due.is("30: not always", x.clerk(0), -2);
            Due.row(x, 0, 1, 0, worth[f] + worth[(f + 1) % 10]);
            Due.is("30: by two FINGERS, not by one alone", x.clerk(0), -2);
            Due.row(x, 0, 1, 2, worth[f], 2);
            Due.is("30: what lacks is not so either way", x.clerk(0), -2);
            Due.row(x, 0, 1, 2, worth[f], 3, worth[f]);
            Due.is("30: what is no CARD is not so either way", x.clerk(0), -2);
            Due.row(x, 0, 1, 2, worth[f], 2, 1024 + worth[f]);
            Due.is("30: what is no DRAWER is not so either way", x.clerk(0), -2);
            Due.row(x, 0, 1, 2, worth[f], 2, worth[f] - 1024);
            Due.is("30: what is below DRAWER 0 is not so either way", x.clerk(0), -2);
            x.mend(200 + f, 0, 4);
            Due.row(x, 0, 1, 2, worth[f], 0, worth[f]);
            Due.is("30: a SMUDGE is so either way", x.clerk(0), f);
            x.mend(f, 0, 5);
            Due.is("30: so without, by a bandage", x.clerk(0), -3);
        }
    }

    private static void clerkSoWithout() {
        TenInDrawers x = Due.cabinet(1);
        Due.sorts(x, 0, "5555555555");
        Due.row(x, 0, 1, 0, 0, 0, 1023);
        Due.is("30: -3 though each FINGER would do", x.clerk(0), -3);
        Due.row(x, 0, 1, 0);
        Due.is("30: half a two is never so", x.clerk(0), -2);
    }

    private static void drawnBounds() {
        for (int cards : new int[] {0, 1, 12}) {
            TenInDrawers x = Due.cabinet(cards);
            for (int n : new int[] {LEAST, -1, 0, 1, 50, 51, MOST}) {
                for (int what : new int[] {LEAST, -1, 0, 1, 2, MOST}) {
                    boolean so = (n == 1 || n == 50) && (what == 0 || what == 1);
                    int got = x.drawn(99, n, what);
                    String call = "31: drawn(99, " + n + ", " + what + ") of " + cards;
                    if (!so || cards < 2) {
                        Due.is(call, got, !so ? -1 : cards == 0 ? -5 : n);
                    } else {
                        Due.is(call, what == 1 ? got : 0, what == 1 ? 12 * n : 0);
                        Due.is(call + ", at most n", got <= 12 * n && got >= 0 ? 1 : 0, 1);
                    }
                }
            }
        }
    }

    /** Each of twelve cards has its own ridges on each finger, so that a draw tells what was drawn. */
    private static void drawnSeeds() {
        int[] seeds = {0, 1, -1, MOST, LEAST, 12345, -12345, 1103515245};
        for (int seed : seeds) {
            TenInDrawers x = Due.cabinet(12);
            x.mend(0, 2, 0);
            for (int c = 0; c < 12; c++) {
                for (int f = 0; f < 10; f++) {
                    x.mend(100 * c + f, 1, 2 * c + (f > 4 ? 1 : 0));
                }
            }
            x.mend(7, 1, 22);
            for (int n : new int[] {1, 2, 49, 50}) {
                int z = seed;
                int right = 0;
                int cards = 0;
                for (int i = 0; i < n; i++) {
                    z = z * 1103515245 + 12345;
                    int card = (z >>> 8) % 12;
                    int f = (z >>> 16) % 10;
                    boolean like11 = card == 11 && f <= 4;
                    boolean of11 = card == 0 && f == 7 || like11;
                    right += like11 ? 0 : 1;
                    cards += of11 ? 2 : 1;
                }
                Due.is("31: an int that wraps, seed " + seed + ", " + n, x.drawn(seed, n, 0), right);
                Due.is("31: CARDS all together, seed " + seed + ", " + n, x.drawn(seed, n, 1), cards);
            }
        }
    }

    private static void drawnSorts() {
        int[] may = {1, 1, 1, 1, 2, 1};
        for (int sort = 0; sort <= 5; sort++) {
            TenInDrawers x = Due.cabinet(1);
            Due.sorts(x, 0, "tttttttttt".replace('t', (char) ('0' + sort)));
            Due.is("31: one CARD is always best, SORT " + sort, x.drawn(3, 50, 0), 50);
            for (int other = 0; other <= 3; other++) {
                x.card();
                Due.sorts(x, 1 + other, "tttttttttt".replace('t', (char) ('0' + other)));
            }
            // Of the first card alone: the others tell which sort its glass had.
            int first = 0;
            int cards = 0;
            int z = 77;
            for (int i = 0; i < 50; i++) {
                z = z * 1103515245 + 12345;
                int card = (z >>> 8) % 5;
                int glass = card > 0 ? card - 1 : sort == 5 ? 0 : sort;
                boolean firstToo = card == 0 || sort == 5 || sort == glass || sort == 4 && (glass == 1 || glass == 3);
                first += card == 0 || !firstToo ? 1 : 0;
                cards += (firstToo ? 1 : 0) + (card == 0 ? may[sort] : 1);
            }
            Due.is("31: a bandaged one is an ARCH, a SMUDGE is one, right of SORT " + sort, x.drawn(77, 50, 0), first);
            Due.is("31: a bandaged one is an ARCH, a SMUDGE is one, cards of SORT " + sort, x.drawn(77, 50, 1), cards);
        }
    }
}
