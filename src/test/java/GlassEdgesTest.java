/** The edges of promises 18 to 25: which glasses there are, exactly near and just not, none and all, points and prints. */
final class GlassEdgesTest {
    private static final int MOST = Integer.MAX_VALUE, LEAST = Integer.MIN_VALUE;
    private static final long NONE = Long.MIN_VALUE;

    public static void main(String[] args) {
        glasses();
        cardsOfWhose();
        exactlyNear();
        noneAndAll();
        best();
        drawers();
        orderOfK();
        orderNotLookedAt();
        orderInLowestTerms();
        sign();
        signs();
        signsRefused();
        points();
        enoughJustLess();
        chanceOfEach();
        Due.end("GlassEdgesTest");
    }

    /** SORT 0 .. 4, RIDGES 0 .. 30: of each sort the first, the last, and the next on either side. */
    private static void glasses() {
        int[] srs = {0, 30, 31, 99, 100, 130, 131, 199, 200, 230, 231, 299, 300, 330, 331, 399, 400, 430, 431, 499, 500, 510, 530, 600,
            -1, -70, -100, MOST, LEAST};
        for (int sr : srs) {
            boolean glass = sr >= 0 && sr / 100 <= 4 && sr % 100 <= 30;
            TenInDrawers x = Due.cabinet(2);
            x.file(0, 0);
            Due.is("18: cards of " + sr, x.whose(sr, -1), glass ? 0 : -1);
            Due.is("18: fingers of all, " + sr, x.whose(sr, -2), glass ? 0 : -1);
            Due.is("18: fingers of a card, " + sr, x.whose(sr, 1), glass ? 0 : -1);
            Due.is("19: best " + sr, x.best(sr), glass ? -2 : -1);
            Due.is("20: drawers " + sr, x.drawers(sr), glass ? 0 : -1);
            for (int k = -2; k <= 0; k++) {
                Due.is("21: order " + sr + ", " + k, x.order(sr, k), glass ? -2 : NONE);
            }
            Due.is("34: search " + sr, x.search(sr), glass ? -2 : -1);
            Due.is("35: searches, a BAD one is none", x.led(2), glass ? 1 : 0);
            Due.is("35: looked at", x.led(3), glass ? 1 : 0);
        }
    }

    private static void cardsOfWhose() {
        for (int cards : new int[] {0, 1, 12}) {
            TenInDrawers x = Due.cabinet(cards);
            Due.is("18: all CARDS", x.whose(110, -1), (1 << cards) - 1);
            Due.is("18: all FINGERS", x.whose(110, -2), 10 * cards);
            for (int c : new int[] {-3, -4, 0, 1, 11, 12, 100, MOST, LEAST}) {
                Due.is("18: FINGERS of card " + c + " of " + cards, x.whose(110, c), c >= 0 && c < cards ? 1023 : -1);
            }
            Due.is("18: no glass and no card", x.whose(500, 12), -1);
        }
    }

    private static void exactlyNear() {
        for (int near = 0; near <= 9; near++) {
            TenInDrawers x = Due.cabinet(1);
            x.mend(0, 2, near);
            Due.ridges(x, 0, 15, 15 - near, 15 + near, 15 - near - 1, 15 + near + 1, 0, 30, near, near + 1, 30 - near);
            String of = ", NEAR " + near;
            Due.is("18: no more than NEAR apart" + of, x.whose(115, 0) & 0b11111, 0b00111);
            Due.is("18: from RIDGES 0" + of, x.whose(100, 0) & 0b0110100000, 0b0010100000);
            Due.is("18: from RIDGES 30" + of, x.whose(130, 0) & 0b1001000000, 0b1001000000);
            Due.is("19: the nearest" + of, x.best(115), 0);
            x.file(0, 0);
            x.mend(0, 1, 15 - near - 1);
            x.mend(1, 0, 3);
            x.mend(2, 0, 3);
            for (int f = 5; f <= 9; f++) {
                x.mend(f, 0, 3);
            }
            Due.is("19: just not NEAR" + of, x.best(115), -2);
            Due.is("20: just not NEAR" + of, x.drawers(115), 0);
            Due.is("21: just not NEAR" + of, x.order(115, 0), -2);
            Due.is("34: just not NEAR" + of, x.search(115), -2);
            x.mend(4, 1, 15 + near);
            Due.is("19: just NEAR" + of, x.best(115), 4);
            Due.is("20: just NEAR" + of, x.drawers(115), 1);
            Due.is("21: just NEAR" + of, x.order(115, 0), 0);
            Due.is("34: just NEAR" + of, x.search(115), 0);
        }
    }

    private static void noneAndAll() {
        int[] mayBe = {1, 2, 4, 8, 10};
        int[] is = {1, 2, 4, 8, 10, 15};
        for (int s = 0; s <= 4; s++) {
            for (int t = 0; t <= 5; t++) {
                TenInDrawers x = Due.cabinet(1);
                Due.sorts(x, 0, "tttttttttt".replace('t', (char) ('0' + t)));
                boolean may = (mayBe[s] & is[t]) != 0;
                Due.is("18: a glass of " + s + " on FINGERS of " + t, x.whose(100 * s + 10, 0), may ? 1023 : 0);
                Due.is("19: a glass of " + s + " on FINGERS of " + t, x.best(100 * s + 10), may ? 0 : -2);
            }
        }
    }

    private static void best() {
        TenInDrawers x = new TenInDrawers();
        Due.is("19: NOT: no CARDS", x.best(110), -2);
        for (int c = 0; c < 12; c++) {
            x.card();
            x.mend(100 * c, 1, 11);
        }
        Due.is("19: of like ones the first", x.best(111), 0);
        Due.law(x, "0");
        Due.is("19: not ALIKE at all: the first it may be", x.best(111), 0);
        Due.law(x, "t=3");
        x.mend(1109, 0, 4);
        Due.is("19: none of those is ALIKE: the first", x.best(110), 0);
        Due.law(x, "t=4");
        Due.is("19: the last FINGER of the last CARD", x.best(110), 20 * 11 + 9);
        x.mend(1100, 0, 4);
        Due.is("19: of its FINGERS the first", x.best(110), 20 * 11);
        x.mend(9, 0, 4);
        Due.is("19: of the CARDS the first", x.best(110), 9);
        x.mend(9, 1, 12);
        Due.is("19: but of those it may be", x.best(110), 20 * 11);
    }

    private static void drawers() {
        TenInDrawers x = new TenInDrawers();
        Due.is("20: no CARDS", x.drawers(110), 0);
        for (int c = 0; c < 12; c++) {
            x.card();
        }
        Due.is("20: all CARDS in one", x.drawers(110), 1);
        Due.is("20: none", x.drawers(210), 0);
        Due.sorts(x, 11, "5555555555");
        Due.is("20: all DRAWERS", x.drawers(210), 1024);
        Due.is("20: each once", x.drawers(110), 1024);
        x.file(11, 5);
        Due.is("20: in which it may lie, not where it is FILED", x.drawers(210), 1024);
    }

    private static void orderOfK() {
        for (int cards = 0; cards <= 12; cards++) {
            TenInDrawers x = Due.cabinet(cards);
            for (int k = 0; k <= 13; k++) {
                Due.is("21: of like ones the least, " + k + " of " + cards, x.order(110, k), k < cards ? k : -2);
            }
            // The mean of 1 .. n is (n + 1) / 2.
            boolean whole = cards % 2 == 1;
            Due.is("21: above, " + cards, x.order(110, -2), cards == 0 ? -2 : whole ? (cards + 1) / 2 : cards + 1);
            Due.is("21: below, " + cards, x.order(110, -1), cards == 0 ? -2 : whole ? 1 : 2);
            Due.is("21: k -3, " + cards, x.order(110, -3), NONE);
            Due.is("21: k -4, " + cards, x.order(110, -4), NONE);
            Due.is("21: the least k, " + cards, x.order(110, LEAST), NONE);
            Due.is("21: the greatest k, " + cards, x.order(110, MOST), -2);
            Due.is("21: no glass, k far behind", x.order(431, MOST), NONE);
        }
    }

    private static void orderNotLookedAt() {
        TenInDrawers x = Due.cabinet(3);
        Due.law(x, "t=4");
        Due.is("21: 0: not looked at, none left", x.order(110, 0), -2);
        Due.is("21: 0: not looked at, none left, above", x.order(110, -2), -2);
        Due.is("21: 0: not looked at, none left, below", x.order(110, -1), -2);
        x.mend(209, 0, 4);
        Due.is("21: 1 is looked at", x.order(110, 0), 2);
        Due.is("21: the others are not", x.order(110, 1), -2);
        Due.is("21: one look, above", x.order(110, -2), 1);
        Due.is("21: one look, below", x.order(110, -1), 1);
        x.mend(209, 1, 12);
        Due.is("21: only by FINGERS it may be", x.order(110, 0), -2);
    }

    private static void orderInLowestTerms() {
        TenInDrawers x = Due.cabinet(12);
        Due.law(x, "99");
        Due.is("21: as ALIKE as may be, above", x.order(110, -2), 13);
        Due.is("21: as ALIKE as may be, below", x.order(110, -1), 2);
        Due.law(x, "t=4?98;t=5?1;0");
        x.mend(1109, 0, 4);
        x.mend(309, 0, 5);
        Due.is("21: likeliest first", x.order(110, 0), 11);
        Due.is("21: the less likely behind", x.order(110, 1), 3);
        Due.is("21: no more", x.order(110, 2), -2);
        Due.is("21: 98 and 2 * 1, above", x.order(110, -2), 100);
        Due.is("21: by 99, below", x.order(110, -1), 99);
        x.mend(9, 0, 5);
        Due.is("21: 98 and 5 * 1, above", x.order(110, -2), 103);
        Due.is("21: by 100, below", x.order(110, -1), 100);
        x.mend(200, 0, 5);
        Due.is("21: 98 and 9 * 1 by 101, above", x.order(110, -2), 107);
        Due.is("21: 98 and 9 * 1 by 101, below", x.order(110, -1), 101);
        x.mend(400, 0, 5);
        Due.is("21: 98 and 14 * 1 by 102, above", x.order(110, -2), 112 / 2);
        Due.is("21: 98 and 14 * 1 by 102, below", x.order(110, -1), 102 / 2);
    }

    private static void sign() {
        TenInDrawers x = new TenInDrawers();
        Due.is("22: no CARDS", x.sign(0), 0);
        Due.is("22: no CARDS, the greater part", x.sign(1), 0);
        for (int what : new int[] {-1, 2, MOST, LEAST}) {
            Due.is("22: what " + what, x.sign(what), -1);
        }
        for (int n = 1; n <= 12; n++) {
            x.card();
            Due.is("22: none parts them: the least FINGER", x.sign(0), 0);
            Due.is("22: all in one part", x.sign(1), n);
        }
        for (int whorls = 1; whorls <= 12; whorls++) {
            x.mend(100 * (whorls - 1) + 9, 0, 3);
            Due.is("22: FINGER 9, till all are WHORLS", x.sign(0), whorls == 12 ? 0 : 9);
            Due.is("22: the greater part of " + whorls, x.sign(1), Math.max(whorls, 12 - whorls));
        }
        for (int sort : new int[] {0, 2, 4, 5}) {
            TenInDrawers y = Due.cabinet(2);
            y.mend(3, 0, sort);
            Due.is("22: SORT " + sort + " is no WHORL surely", y.sign(1), 2);
            y.mend(103, 0, 3);
            Due.is("22: it is parted from a WHORL, SORT " + sort, y.sign(0), 3);
            Due.is("22: one in each part, SORT " + sort, y.sign(1), 1);
        }
    }

    private static void signs() {
        Due.is("23: no CARDS: none is needed", new TenInDrawers().signs(0), 0);
        Due.is("23: no CARDS: which", new TenInDrawers().signs(1), 0);
        Due.is("23: one CARD: none is needed", Due.cabinet(1).signs(0), 0);
        Due.is("23: one CARD: which", Due.cabinet(1).signs(1), 0);
        for (int n = 2; n <= 11; n++) {
            TenInDrawers x = Due.cabinet(n);
            for (int c = 1; c < n; c++) {
                Due.is("23: two are alike: NOT", x.signs(0), -2);
                x.mend(100 * c + 10 - c, 0, 2);
            }
            Due.is("23: the fewest of " + n, x.signs(0), n - 1);
            Due.is("23: which of " + n, x.signs(1), 1023 & ~((1 << 11 - n) - 1));
        }
        TenInDrawers y = Due.cabinet(4);
        for (int c = 0; c < 4; c++) {
            for (int f = 0; f < 10; f++) {
                y.mend(100 * c + f, 0, c);
            }
        }
        Due.is("23: four SORTS by one FINGER", y.signs(0), 1);
        Due.is("23: of like ones the least", y.signs(1), 1);
        y.mend(300, 0, 4);
        Due.is("23: a SMUDGE may be a LOOP left: the next", y.signs(1), 2);
        y.mend(301, 0, 5);
        Due.is("23: a bandaged one may be all: the next", y.signs(1), 4);
        y.card();
        Due.is("23: a fifth like the second", y.signs(0), -2);
        Due.is("23: a fifth like the second, which", y.signs(1), -2);
        Due.is("23: twelve alike", Due.cabinet(12).signs(0), -2);
    }

    private static void signsRefused() {
        for (int cards : new int[] {0, 1, 2}) {
            for (int what : new int[] {-1, 2, MOST, LEAST}) {
                Due.is("23: what " + what + " of " + cards, Due.cabinet(cards).signs(what), -1);
            }
        }
    }

    /** p 1 .. 12, c 2 .. 9, n 1 .. 9999, a 0 .. p, part 0 and 1: what is let through, and the next on either side. */
    private static void points() {
        TenInDrawers x = new TenInDrawers();
        int[] pcs = {-102, -1, 0, 2, 9, 99, 100, 101, 102, 109, 110, 199, 200, 201, 202, 1102, 1200, 1201, 1202, 1209, 1210, 1299, 1300, 1302,
            1309, MOST, LEAST};
        for (int pc : pcs) {
            boolean there = pc >= 100 && pc / 100 <= 12 && pc % 100 >= 2 && pc % 100 <= 9;
            Due.is("24: pc " + pc, x.enough(pc, 1) == -1 ? 0 : 1, there ? 1 : 0);
            Due.is("25: pc " + pc, x.chance(pc, 0, 0) == NONE ? 0 : 1, there ? 1 : 0);
        }
        int[][] ns = {{LEAST, -1}, {-1, -1}, {0, -1}, {1, 1}, {9999, 7}, {10000, -1}, {MOST, -1}};
        for (int[] n : ns) {
            Due.is("24: n " + n[0], x.enough(1209, n[0]), n[1]);
        }
        for (int p : new int[] {1, 2, 11, 12}) {
            for (int a : new int[] {LEAST, -1, 0, 1, p, p + 1, 13, MOST}) {
                for (int part : new int[] {LEAST, -1, 0, 1, 2, MOST}) {
                    boolean there = a >= 0 && a <= p && (part == 0 || part == 1);
                    long got = x.chance(100 * p + 3, a, part);
                    Due.is("25: chance(" + p + "03, " + a + ", " + part + ")", got == NONE ? 0 : 1, there ? 1 : 0);
                }
            }
        }
    }

    /** Less than one, not one: n is the greatest that is less, then the least that is not. */
    private static void enoughJustLess() {
        // pc, a, the greatest n for which a is enough.
        int[][] due = {{102, 1, 1}, {109, 1, 8}, {202, 2, 3}, {209, 2, 80}, {303, 3, 26}, {1202, 12, 4095}, {1102, 11, 2047}, {403, 4, 80},
            {509, 5, 9999}};
        TenInDrawers x = new TenInDrawers();
        for (int[] d : due) {
            Due.is("24: enough(" + d[0] + ", " + d[2] + ")", x.enough(d[0], d[2]), d[1]);
            Due.is("24: one more is too many, " + d[0], x.enough(d[0], d[2] + 1), d[2] == 9999 ? -1 : -2);
        }
        Due.is("24: all of 2 in 3: 1 of 9; one or more: 5 of 9", x.enough(203, 1), 1);
        Due.is("24: 2 prints: 10 of 9 are not less", x.enough(203, 2), 2);
        Due.is("24: never 0: all have so many", x.enough(1209, 1) > 0 ? 1 : 0, 1);
    }

    private static void chanceOfEach() {
        TenInDrawers x = new TenInDrawers();
        for (int c = 2; c <= 9; c++) {
            Due.is("25: 1 of 1, above", x.chance(100 + c, 1, 0), 1);
            Due.is("25: 1 of 1, below", x.chance(100 + c, 1, 1), c);
            Due.is("25: 0 of 1, above", x.chance(100 + c, 0, 0), c - 1);
            Due.is("25: 0 of 1, below", x.chance(100 + c, 0, 1), c);
            long all = 1;
            long none = 1;
            for (int i = 0; i < 12; i++) {
                all *= c;
                none *= c - 1;
            }
            Due.is("25: 12 of 12, above", x.chance(1200 + c, 12, 0), 1);
            Due.is("25: 12 of 12, below", x.chance(1200 + c, 12, 1), all);
            Due.is("25: 0 of 12, above", x.chance(1200 + c, 0, 0), none);
            Due.is("25: 0 of 12, below", x.chance(1200 + c, 0, 1), all);
        }
        Due.is("25: 6 of 12 in lowest terms: 924 by 4096, above", x.chance(1202, 6, 0), 231);
        Due.is("25: 6 of 12 in lowest terms: 924 by 4096, below", x.chance(1202, 6, 1), 1024);
    }
}
