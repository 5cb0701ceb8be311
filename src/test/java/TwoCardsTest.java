/** Promises 15 to 17: two cards of one man, how alike cards are. */
final class TwoCardsTest {
    public static void main(String[] args) {
        same();
        oneMan();
        nearest();
        Due.end("TwoCardsTest");
    }

    private static void same() {
        TenInDrawers x = Due.cabinet(3);
        Due.is("15: alike cards", x.same(1, 0), 10);
        Due.is("15: alike cards, alike", x.same(1, 1), 100);
        Due.sorts(x, 0, "0123451111");
        Due.sorts(x, 1, "5244301111");
        // 0/5 yes, 1/2 no, 2/4 no, 3/4 yes, 4/3 yes, 5/0 yes
        Due.is("15: by sorts", x.same(1, 0), 8);
        Due.ridges(x, 0, 10, 10, 10, 10, 10, 10, 11, 12, 9, 8);
        Due.is("15: by ridges", x.same(1, 0), 6);
        Due.is("15: alike", x.same(1, 1), 40 + 9 + 8 + 9 + 8);
        x.mend(0, 2, 0);
        Due.is("15: near 0", x.same(100, 0), 4);
        x.mend(0, 2, 2);
        Due.is("15: near 2", x.same(1, 0), 8);
        Due.is("15: itself", x.same(101, 0), -1);
        Due.is("15: itself, alike", x.same(0, 1), -1);
        int[][] bad = {{1, 2}, {1, -1}, {3, 0}, {300, 0}, {-1, 0}, {112, 0}, {Integer.MAX_VALUE, 1}, {Integer.MIN_VALUE, 1}};
        for (int[] b : bad) {
            Due.is("15: same(" + b[0] + ", " + b[1] + ")", x.same(b[0], b[1]), -1);
        }
        Due.law(x, "s*10+f");
        Due.is("15: by a law, the one's sorts", x.same(1, 1), 11 + 22 + 33 + 44 + 55 + 16 + 17 + 18 + 19);
        Due.is("15: by a law, turned", x.same(201, 1), 145);
        Due.is("15: by a law, of the second", x.same(102, 1), 50 + 21 + 42 + 43 + 34 + 5 + 16 + 17 + 18 + 19);
    }

    private static void oneMan() {
        TenInDrawers x = Due.cabinet(4);
        Due.is("16: all pairs", x.oneMan(0), 6);
        Due.is("16: first", x.oneMan(1), 1);
        x.mend(0, 0, 0);
        Due.is("16: without 0", x.oneMan(0), 3);
        Due.is("16: first without 0", x.oneMan(1), 22);
        x.mend(109, 1, 12);
        Due.is("16: without 1", x.oneMan(0), 1);
        Due.is("16: first without 1", x.oneMan(1), 43);
        x.mend(0, 0, 4);
        Due.is("16: by a smudge", x.oneMan(0), 3);
        Due.is("16: first by a smudge", x.oneMan(1), 2);
        x.mend(300, 0, 2);
        x.mend(205, 0, 3);
        Due.is("16: none", x.oneMan(0), 0);
        Due.is("16: no first", x.oneMan(1), -2);
        Due.is("16: what 2", x.oneMan(2), -1);
        Due.is("16: what -1", x.oneMan(-1), -1);
        Due.is("16: one card", Due.cabinet(1).oneMan(0), 0);
        Due.is("16: one card, first", Due.cabinet(1).oneMan(1), -2);
    }

    private static void nearest() {
        TenInDrawers x = Due.cabinet(1);
        Due.is("17: alone", x.nearest(0), -2);
        Due.is("17: no card", x.nearest(1), -1);
        Due.is("17: card -1", x.nearest(-1), -1);
        x.card();
        x.card();
        Due.is("17: of like ones the least", x.nearest(0), 1);
        Due.is("17: of like ones the least", x.nearest(1), 0);
        Due.is("17: of like ones the least", x.nearest(2), 0);
        x.mend(100, 1, 11);
        Due.is("17: the more alike", x.nearest(0), 2);
        x.mend(203, 1, 12);
        Due.is("17: the more alike", x.nearest(0), 1);
        Due.law(x, "t");
        x.mend(203, 0, 3);
        Due.is("17: by the other's sorts", x.nearest(0), 2);
        Due.is("17: by the other's sorts", x.nearest(2), 0);
        Due.law(x, "0");
        Due.is("17: none alike, the least", x.nearest(0), 1);
    }
}
