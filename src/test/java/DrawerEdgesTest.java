/** The edges of promises 9 to 17: the least and the greatest drawer, none and all of the cards, exactly near and just not. */
final class DrawerEdgesTest {
    private static final int MOST = Integer.MAX_VALUE, LEAST = Integer.MIN_VALUE;
    private static final int[] WORTH = {16 * 32, 16, 8 * 32, 8, 4 * 32, 4, 2 * 32, 2, 1 * 32, 1};
    private static final String ALL_WHORLS = "3333333333", ALL_BANDAGED = "5555555555";

    public static void main(String[] args) {
        noneAndAllWhorls();
        eachDrawerOnce();
        cardsOfDrawers();
        drawersOfMay();
        misfiled();
        foundFarthest();
        foundByTurns();
        full();
        fullRefused();
        look();
        sameFingers();
        sameAlike();
        sameRefused();
        oneMan();
        nearest();
        Due.end("DrawerEdgesTest");
    }

    private static void noneAndAllWhorls() {
        TenInDrawers x = Due.cabinet(2);
        Due.sorts(x, 1, ALL_WHORLS);
        int[][] due = {{0, 0, 1, 0, 0}, {1023, 1023, 1, 10, 10}};
        for (int c = 0; c <= 1; c++) {
            for (int what = 0; what <= 4; what++) {
                Due.is("9: drawer(" + c + ", " + what + ") of no whorl, of ten", x.drawer(c, what), due[c][what]);
            }
        }
        for (int f = 0; f <= 9; f++) {
            for (int sort = 0; sort <= 5; sort++) {
                TenInDrawers y = Due.cabinet(1);
                y.mend(f, 0, sort);
                String of = " of SORT " + sort + " on FINGER " + f;
                Due.is("9: least" + of, y.drawer(0, 0), sort == 3 ? WORTH[f] : 0);
                Due.is("9: greatest" + of, y.drawer(0, 1), sort >= 3 ? WORTH[f] : 0);
                Due.is("9: how many" + of, y.drawer(0, 2), sort >= 4 ? 2 : 1);
                Due.is("9: surely" + of, y.drawer(0, 3), sort == 3 ? 1 : 0);
                Due.is("9: at most" + of, y.drawer(0, 4), sort >= 3 ? 1 : 0);
            }
        }
    }

    private static void eachDrawerOnce() {
        for (int open = 0; open <= 10; open++) {
            TenInDrawers x = Due.cabinet(1);
            for (int f = 0; f < open; f++) {
                x.mend(f, 0, f % 2 == 0 ? 4 : 5);
            }
            Due.is("9: each DRAWER once, " + open + " open", x.drawer(0, 2), 1 << open);
            Due.is("13: so many DRAWERS at all", x.full(-2), 1 << open);
        }
    }

    private static void cardsOfDrawers() {
        for (int cards : new int[] {0, 1, 12}) {
            TenInDrawers x = Due.cabinet(cards);
            for (int c : new int[] {-1, 0, 1, 11, 12, 100, MOST, LEAST}) {
                boolean there = c >= 0 && c < cards;
                String of = "(" + c + ") of " + cards;
                for (int what : new int[] {-1, 0, 4, 5, MOST, LEAST}) {
                    Due.is("9: drawer" + of + ", " + what, x.drawer(c, what), there && (what == 0 || what == 4) ? 0 : -1);
                }
                for (int d : new int[] {-1, 0, 1023, 1024, MOST, LEAST}) {
                    Due.is("10: may" + of + ", " + d, x.may(c, d), there && d == 0 ? 1 : there && d == 1023 ? 0 : -1);
                }
                Due.is("12: found" + of, x.found(c), there ? -2 : -1);
                for (int what : new int[] {-1, 0, 1, 2, MOST, LEAST}) {
                    int all = what == 0 ? cards - 1 : (1 << cards) - 1 & ~(1 << c);
                    Due.is("14: look" + of + ", " + what, x.look(c, what), there && (what == 0 || what == 1) ? all : -1);
                }
                Due.is("17: nearest" + of, x.nearest(c), !there ? -1 : cards == 1 ? -2 : c == 0 ? 1 : 0);
            }
        }
    }

    private static void drawersOfMay() {
        TenInDrawers x = Due.cabinet(3);
        Due.sorts(x, 1, ALL_WHORLS);
        Due.sorts(x, 2, ALL_BANDAGED);
        int[][] due = {{0, 1, 0, 1}, {1, 0, 0, 1}, {511, 0, 0, 1}, {512, 0, 0, 1}, {1022, 0, 0, 1}, {1023, 0, 1, 1}, {1024, -1, -1, -1},
            {2047, -1, -1, -1}, {-1, -1, -1, -1}, {-1024, -1, -1, -1}};
        for (int[] d : due) {
            for (int c = 0; c <= 2; c++) {
                Due.is("10: may(" + c + ", " + d[0] + ")", x.may(c, d[0]), d[1 + c]);
            }
        }
        for (int bit = 0; bit < 10; bit++) {
            Due.is("10: one bit off 0", x.may(0, 1 << bit), 0);
            Due.is("10: one bit off 1023", x.may(1, 1023 ^ 1 << bit), 0);
        }
    }

    private static void misfiled() {
        Due.is("11: no CARDS", new TenInDrawers().misfiled(), 0);
        TenInDrawers x = Due.cabinet(12);
        Due.is("11: none FILED", x.misfiled(), 0);
        for (int c = 0; c < 12; c++) {
            x.file(c, c % 2 == 0 ? 1 : 1023);
            Due.is("11: FILED in none of its DRAWERS", x.misfiled(), (1 << c + 1) - 1);
        }
        x.file(11, 0);
        Due.is("11: FILED in its own", x.misfiled(), 2047);
        x.take(0);
        Due.is("11: not FILED any more", x.misfiled(), 2046);
        x.mend(209, 0, 4);
        Due.is("11: by a SMUDGE in 1", x.misfiled(), 2042);
        Due.sorts(x, 1, ALL_BANDAGED);
        Due.is("11: bandaged, in 1023", x.misfiled(), 2040);
    }

    private static void foundFarthest() {
        // FILED; looked through till drawer 0 is reached; till drawer 1023 is.
        int[][] due = {{0, 0, 1023}, {1, 2, 1023}, {510, 1020, 1023}, {511, 1022, 1023}, {512, 1023, 1021}, {513, 1023, 1019},
            {1022, 1023, 1}, {1023, 1023, 0}};
        for (int[] d : due) {
            TenInDrawers x = Due.cabinet(2);
            Due.sorts(x, 1, ALL_WHORLS);
            x.file(0, d[0]);
            x.file(1, d[0]);
            Due.is("12: from " + d[0] + " to 0", x.found(0), d[1]);
            Due.is("12: from " + d[0] + " to 1023", x.found(1), d[2]);
            x.take(0);
            Due.is("12: NOT FILED any more", x.found(0), -2);
        }
    }

    private static void foundByTurns() {
        TenInDrawers x = Due.cabinet(1);
        x.mend(7, 0, 4);
        x.mend(1, 0, 3);
        // Drawers 16 and 18.
        int[][] due = {{15, 1}, {16, 0}, {17, 1}, {18, 0}, {19, 2}, {20, 4}, {14, 3}, {0, 16}, {8, 15}, {10, 11}, {36, 36},
            {1023, 1005}, {1000, 23 + 982}};
        for (int[] d : due) {
            x.file(0, d[0]);
            Due.is("12: up and down by turns, from " + d[0], x.found(0), d[1]);
        }
    }

    private static void full() {
        TenInDrawers x = new TenInDrawers();
        Due.is("13: CARDS in 0 of none", x.full(0), 0);
        Due.is("13: the fullest of none, the least", x.full(-1), 0);
        Due.is("13: how many DRAWERS of none", x.full(-2), 0);
        for (int n = 1; n <= 12; n++) {
            x.card();
            Due.is("13: CARDS in 0", x.full(0), n);
            Due.is("13: CARDS in 1", x.full(1), 0);
            Due.is("13: how many DRAWERS", x.full(-2), 1);
        }
        Due.is("13: the fullest is the first", x.full(-1), 0);
        for (int c = 0; c < 6; c++) {
            Due.sorts(x, c, ALL_WHORLS);
        }
        Due.is("13: six in each: the least", x.full(-1), 0);
        Due.sorts(x, 6, ALL_WHORLS);
        Due.is("13: the fullest is the last", x.full(-1), 1023);
        Due.is("13: CARDS in 1023", x.full(1023), 7);
        Due.is("13: how many DRAWERS", x.full(-2), 2);
        Due.sorts(x, 7, ALL_BANDAGED);
        Due.is("13: CARDS in 1023 with one bandaged", x.full(1023), 8);
        Due.is("13: CARDS in 512 with one bandaged", x.full(512), 1);
        Due.is("13: all DRAWERS", x.full(-2), 1024);
        x.file(0, 512);
        Due.is("13: where CARDS may lie, not where they are FILED", x.full(512), 1);
    }

    private static void fullRefused() {
        TenInDrawers x = Due.cabinet(1);
        int[][] due = {{LEAST, -1}, {-3, -1}, {-2, 1}, {-1, 0}, {0, 1}, {1, 0}, {1023, 0}, {1024, -1}, {MOST, -1}};
        for (int[] d : due) {
            Due.is("13: full(" + d[0] + ")", x.full(d[0]), d[1]);
        }
    }

    private static void look() {
        TenInDrawers x = Due.cabinet(12);
        for (int c = 0; c < 12; c++) {
            Due.is("14: all others", x.look(c, 0), 11);
            Due.is("14: which", x.look(c, 1), 4095 & ~(1 << c));
        }
        x.mend(9, 0, 3);
        Due.is("14: none", x.look(0, 0), 0);
        Due.is("14: which of none", x.look(0, 1), 0);
        Due.is("14: of the others one less", x.look(11, 0), 10);
        Due.is("14: of the others one less, which", x.look(11, 1), 2046);
        x.mend(9, 0, 5);
        Due.is("14: by a bandage in both", x.look(0, 0), 11);
        x.mend(1108, 0, 4);
        x.mend(8, 0, 3);
        Due.is("14: by a SMUDGE one", x.look(0, 1), 2048);
        Due.is("14: no other CARDS", Due.cabinet(1).look(0, 0), 0);
    }

    private static void sameFingers() {
        for (int near = 0; near <= 9; near++) {
            TenInDrawers x = Due.cabinet(2);
            x.mend(0, 2, near);
            Due.ridges(x, 0, 0, 30, 15, 15, 15, 15, 10, 10, 10, 10);
            Due.ridges(x, 1, near, 30 - near, 15 + near, 15 - near, 15 + near + 1, 15 - near - 1, 10, 30, 10, 0);
            String of = ", NEAR " + near;
            Due.is("15: no more than NEAR apart" + of, x.same(1, 0), 6);
            Due.is("15: turned" + of, x.same(100, 0), 6);
            Due.is("16: not all ten" + of, x.oneMan(0), 0);
            x.mend(4, 1, 16);
            x.mend(105, 1, 15 - near);
            x.mend(107, 1, 10);
            x.mend(109, 1, 10);
            Due.is("15: all ten" + of, x.same(1, 0), 10);
            Due.is("16: all ten" + of, x.oneMan(0), 1);
        }
        TenInDrawers y = Due.cabinet(2);
        Due.sorts(y, 1, "0000000000");
        Due.is("15: of no FINGER", y.same(1, 0), 0);
        Due.sorts(y, 0, ALL_BANDAGED);
        Due.is("15: of all", y.same(1, 0), 10);
    }

    private static void sameAlike() {
        TenInDrawers x = Due.cabinet(2);
        Due.is("15: ALIKE of all together", x.same(1, 1), 100);
        Due.law(x, "100");
        Due.is("15: each held at 99", x.same(1, 1), 990);
        Due.law(x, "-1");
        Due.is("15: each held at 0", x.same(1, 1), 0);
        Due.law(x, "f=9");
        Due.is("15: of FINGER 9 too", x.same(1, 1), 1);
        Due.law(x, "f=0");
        Due.is("15: of FINGER 0 too", x.same(1, 1), 1);
        Due.law(x, "0?1");
        Due.is("15: no LINE counts", x.same(1, 1), 0);
    }

    private static void sameRefused() {
        for (int cards : new int[] {0, 1, 2, 12}) {
            TenInDrawers x = Due.cabinet(cards);
            for (int ab : new int[] {0, 1, 11, 12, 99, 100, 101, 102, 200, 1000, 1011, 1100, 1110, 1111, 1112, 1200, -1, -100, MOST, LEAST}) {
                boolean there = ab >= 0 && ab / 100 < cards && ab % 100 < cards && ab / 100 != ab % 100;
                for (int what : new int[] {-1, 0, 1, 2, MOST, LEAST}) {
                    int due = !there ? -1 : what == 0 ? 10 : what == 1 ? 100 : -1;
                    Due.is("15: same(" + ab + ", " + what + ") of " + cards, x.same(ab, what), due);
                }
            }
        }
    }

    private static void oneMan() {
        int[] pairs = {0, 0, 1, 3, 6, 10, 15, 21, 28, 36, 45, 55, 66};
        for (int cards = 0; cards <= 12; cards++) {
            TenInDrawers x = Due.cabinet(cards);
            Due.is("16: pairs of " + cards, x.oneMan(0), pairs[cards]);
            Due.is("16: the first of " + cards, x.oneMan(1), cards < 2 ? -2 : 1);
            for (int what : new int[] {-1, 2, MOST, LEAST}) {
                Due.is("16: what " + what, x.oneMan(what), -1);
            }
        }
        TenInDrawers x = Due.cabinet(12);
        for (int c = 0; c < 12; c++) {
            x.mend(100 * c, 1, 2 * Math.min(c, 10));
        }
        Due.is("16: the last two only", x.oneMan(0), 1);
        Due.is("16: 20 times the lesser and the other", x.oneMan(1), 20 * 10 + 11);
        x.mend(1100, 1, 30);
        Due.is("16: none", x.oneMan(0), 0);
        Due.is("16: none is the first: NOT", x.oneMan(1), -2);
    }

    private static void nearest() {
        TenInDrawers x = Due.cabinet(12);
        Due.law(x, "0");
        Due.is("17: none ALIKE: the least", x.nearest(11), 0);
        Due.is("17: none ALIKE: the least other one", x.nearest(0), 1);
        Due.law(x, "s=3&t=3&f=9");
        x.mend(1109, 0, 3);
        x.mend(9, 0, 3);
        Due.is("17: the last", x.nearest(0), 11);
        Due.is("17: the first", x.nearest(11), 0);
        x.mend(509, 0, 3);
        Due.is("17: of like ones the least", x.nearest(0), 5);
        Due.law(x, "s");
        Due.is("17: by the one's SORTS all are like", x.nearest(11), 0);
        Due.law(x, "t");
        Due.is("17: by the others' SORTS", x.nearest(0), 5);
    }
}
