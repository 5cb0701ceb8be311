/** Promises 18 to 25: a print on a glass, in which order to look, which signs tell, points alike. */
final class GlassTest {
    private static final long NONE = Long.MIN_VALUE;

    public static void main(String[] args) {
        whose();
        best();
        drawers();
        order();
        sign();
        signs();
        enough();
        chance();
        Due.end("GlassTest");
    }

    private static final int[] BAD_GLASSES = {-1, 31, 99, 131, 431, 500, 510, -100, Integer.MAX_VALUE, Integer.MIN_VALUE};

    private static void whose() {
        TenInDrawers x = Due.cabinet(2);
        Due.sorts(x, 0, "0123451111");
        Due.ridges(x, 0, 10, 10, 10, 10, 10, 10, 8, 9, 11, 12);
        Due.sorts(x, 1, "0000003333");
        Due.is("18: arch", x.whose(10, 0), 0b100001);
        Due.is("18: loop left", x.whose(110, 0), 0b0110110010);
        Due.is("18: loop right", x.whose(210, 0), 0b100100);
        Due.is("18: whorl", x.whose(310, 0), 0b111000);
        Due.is("18: smudge", x.whose(410, 0), 0b0110111010);
        Due.is("18: smudge of 1", x.whose(410, 1), 0b1111000000);
        Due.is("18: ridges 8", x.whose(108, 0), 0b0011000000);
        Due.is("18: cards, arch", x.whose(10, -1), 0b11);
        Due.is("18: cards, loop left", x.whose(110, -1), 0b01);
        Due.is("18: cards, none", x.whose(125, -1), 0);
        Due.is("18: fingers, arch", x.whose(10, -2), 8);
        Due.is("18: fingers, whorl", x.whose(311, -2), 7);
        x.mend(0, 2, 0);
        Due.is("18: near 0", x.whose(110, 0), 0b0000110010);
        x.mend(0, 2, 9);
        Due.is("18: near 9, 0 ridges", x.whose(100, 0), 0b0011000000);
        Due.is("18: no card 2", x.whose(110, 2), -1);
        Due.is("18: card -3", x.whose(110, -3), -1);
        for (int sr : BAD_GLASSES) {
            Due.is("18: whose(" + sr + ", -1)", x.whose(sr, -1), -1);
            Due.is("18: whose(" + sr + ", 0)", x.whose(sr, 0), -1);
            Due.is("19: best(" + sr + ")", x.best(sr), -1);
            Due.is("20: drawers(" + sr + ")", x.drawers(sr), -1);
            Due.is("21: order(" + sr + ", 0)", x.order(sr, 0), NONE);
            Due.is("34: search(" + sr + ")", x.search(sr), -1);
        }
        Due.is("34: none was a search", x.led(2), 0);
        Due.is("18: smudge, 30 ridges", x.whose(430, -1), 0);
        Due.is("18: empty", Due.cabinet(0).whose(110, -2), 0);
    }

    private static void best() {
        TenInDrawers x = Due.cabinet(3);
        Due.is("19: of like ones the first", x.best(110), 0);
        Due.is("19: one off", x.best(111), 0);
        x.mend(204, 1, 11);
        Due.is("19: the most alike", x.best(111), 44);
        x.mend(107, 1, 11);
        Due.is("19: of two the first", x.best(111), 27);
        Due.is("19: none", x.best(310), -2);
        Due.is("19: two off", x.best(113), -2);
        Due.law(x, "f");
        Due.is("19: by the finger", x.best(111), 9);
        Due.law(x, "0");
        Due.is("19: not alike, but may be", x.best(111), 0);
        Due.law(x, "s*10+t");
        x.mend(106, 0, 5);
        Due.is("19: by the other's sort", x.best(110), 26);
        x.mend(106, 1, 20);
        Due.is("19: but it may not be", x.best(110), 0);
        Due.is("19: empty", Due.cabinet(0).best(110), -2);
    }

    private static void drawers() {
        TenInDrawers x = Due.cabinet(3);
        Due.sorts(x, 0, "3111111111");
        Due.sorts(x, 1, "4111111111");
        Due.sorts(x, 2, "1155111111");
        // 512; 0, 512; 0, 256, 8, 264
        Due.is("20: all", x.drawers(110), 5);
        Due.is("20: whorl", x.drawers(310), 5);
        Due.is("20: arch", x.drawers(10), 4);
        x.mend(202, 0, 0);
        Due.is("20: arch", x.drawers(10), 2);
        x.mend(203, 0, 0);
        Due.is("20: whorl of 0 and 1", x.drawers(310), 2);
        Due.is("20: none", x.drawers(210), 0);
        Due.is("20: empty", Due.cabinet(0).drawers(110), 0);
    }

    private static void order() {
        TenInDrawers x = Due.cabinet(4);
        Due.sorts(x, 0, "0000000000");
        Due.law(x, "t*10+f");
        Due.sorts(x, 1, "1000000000");
        Due.sorts(x, 2, "0400000001");
        Due.sorts(x, 3, "1000000000");
        // 10; 41; 10
        Due.is("21: first", x.order(110, 0), 2);
        Due.is("21: second", x.order(110, 1), 1);
        Due.is("21: third", x.order(110, 2), 3);
        Due.is("21: no fourth", x.order(110, 3), -2);
        Due.is("21: far behind", x.order(110, Integer.MAX_VALUE), -2);
        Due.is("21: above", x.order(110, -2), 41 + 20 + 30);
        Due.is("21: below", x.order(110, -1), 61);
        x.mend(201, 0, 0);
        // 10; 19; 10
        Due.is("21: above", x.order(110, -2), (19 + 20 + 30) / 3);
        Due.is("21: below", x.order(110, -1), 39 / 3);
        x.mend(209, 0, 0);
        Due.is("21: lowest terms, above", x.order(110, -2), 3);
        Due.is("21: lowest terms, below", x.order(110, -1), 2);
        x.mend(200, 0, 2);
        Due.is("21: one card, above", x.order(210, -2), 1);
        Due.is("21: one card, below", x.order(210, -1), 1);
        Due.is("21: k -3", x.order(110, -3), NONE);
        Due.is("21: none", x.order(310, 0), -2);
        Due.is("21: none, above", x.order(310, -2), -2);
        Due.is("21: none, below", x.order(310, -1), -2);
        Due.law(x, "0");
        Due.is("21: 0 is not looked at", x.order(110, 0), -2);
        Due.is("21: 0 is not looked at", x.order(110, -1), -2);
    }

    private static void sign() {
        TenInDrawers x = Due.cabinet(4);
        Due.is("22: none parts", x.sign(0), 0);
        Due.is("22: all in one", x.sign(1), 4);
        x.mend(3, 0, 3);
        Due.is("22: one of four", x.sign(0), 3);
        Due.is("22: three left", x.sign(1), 3);
        x.mend(107, 0, 3);
        x.mend(207, 0, 3);
        Due.is("22: two of four", x.sign(0), 7);
        Due.is("22: two left", x.sign(1), 2);
        x.mend(5, 0, 3);
        x.mend(305, 0, 3);
        Due.is("22: of like ones the least", x.sign(0), 5);
        x.mend(205, 0, 3);
        Due.is("22: three of four", x.sign(0), 7);
        TenInDrawers y = Due.cabinet(3);
        Due.sorts(y, 0, "3333333333");
        Due.sorts(y, 1, "3333333333");
        Due.sorts(y, 2, "3333333334");
        Due.is("22: a smudge is no whorl surely", y.sign(0), 9);
        Due.is("22: a smudge is no whorl surely", y.sign(1), 2);
        Due.is("22: what 2", y.sign(2), -1);
        Due.is("22: what -1", y.sign(-1), -1);
    }

    private static void signs() {
        TenInDrawers x = Due.cabinet(1);
        Due.is("23: one card", x.signs(0), 0);
        Due.is("23: one card, which", x.signs(1), 0);
        x.card();
        Due.is("23: alike", x.signs(0), -2);
        Due.is("23: alike, which", x.signs(1), -2);
        x.mend(109, 0, 2);
        Due.is("23: by 9", x.signs(0), 1);
        Due.is("23: by 9, which", x.signs(1), 512);
        x.mend(104, 0, 0);
        Due.is("23: the least", x.signs(1), 16);
        x.card();
        x.mend(209, 0, 0);
        // 0 1: 4, 9; 0 2: 9; 1 2: 4, 9
        Due.is("23: by 9", x.signs(0), 1);
        Due.is("23: by 9, which", x.signs(1), 512);
        x.mend(209, 0, 1);
        x.mend(203, 0, 3);
        // 0 2: 3; 1 2: 3, 4, 9
        Due.is("23: by two", x.signs(0), 2);
        Due.is("23: by two, which", x.signs(1), 0b11000);
        x.mend(203, 0, 4);
        Due.is("23: a smudge does not tell", x.signs(0), -2);
        x.mend(3, 0, 2);
        // 0 1: 3, 4, 9; 0 2: 3; 1 2: 4, 9
        Due.is("23: by two again", x.signs(1), 0b11000);
        x.mend(3, 1, 20);
        Due.is("23: not by ridges", x.signs(0), 2);
        Due.is("23: what 2", x.signs(2), -1);
        Due.is("23: what -1", x.signs(-1), -1);
        TenInDrawers y = Due.cabinet(11);
        for (int c = 1; c < 11; c++) {
            y.mend(100 * c + c - 1, 0, 0);
        }
        Due.is("23: all ten", y.signs(0), 10);
        Due.is("23: all ten, which", y.signs(1), 1023);
    }

    private static void enough() {
        TenInDrawers x = new TenInDrawers();
        Due.is("24: 1 of 2, 1 print", x.enough(102, 1), 1);
        Due.is("24: 1 of 2, 2 prints: one is not less", x.enough(102, 2), -2);
        Due.is("24: 1 of 9, 8 prints", x.enough(109, 8), 1);
        Due.is("24: 1 of 9, 9 prints", x.enough(109, 9), -2);
        Due.is("24: 2 of 3: 5 of 9 have one", x.enough(203, 1), 1);
        Due.is("24: 2 of 3, 2 prints", x.enough(203, 2), 2);
        Due.is("24: 2 of 3, 8 prints", x.enough(203, 8), 2);
        Due.is("24: 2 of 3, 9 prints", x.enough(203, 9), -2);
        Due.is("24: 12 of 2, 4095", x.enough(1202, 4095), 12);
        Due.is("24: 12 of 2, 4096", x.enough(1202, 4096), -2);
        Due.is("24: 12 of 2, 315: 13 ways", x.enough(1202, 315), 11);
        Due.is("24: 12 of 2, 316", x.enough(1202, 316), 12);
        Due.is("24: 12 of 9, 9999", x.enough(1209, 9999), 7);
        int[][] bad = {{101, 1}, {110, 1}, {2, 1}, {1302, 1}, {-102, 1}, {102, 0}, {102, 10000}, {102, -1}, {199, 1}, {100, 1},
            {Integer.MAX_VALUE, 1}, {Integer.MIN_VALUE, 1}, {102, Integer.MAX_VALUE}};
        for (int[] b : bad) {
            Due.is("24: enough(" + b[0] + ", " + b[1] + ")", x.enough(b[0], b[1]), -1);
        }
    }

    private static void chance() {
        TenInDrawers x = new TenInDrawers();
        long[][] due = {{102, 0, 1, 2}, {102, 1, 1, 2}, {202, 1, 1, 2}, {203, 1, 4, 9}, {203, 0, 4, 9}, {304, 1, 27, 64},
            {306, 3, 1, 216}, {604, 2, 1215, 4096}, {1202, 6, 231, 1024}, {1209, 0, 68719476736L, 282429536481L},
            {1209, 12, 1, 282429536481L}, {306, 1, 25, 72}, {406, 4, 1, 1296}, {1206, 2, 107421875, 362797056}};
        for (long[] d : due) {
            String call = "25: chance(" + d[0] + ", " + d[1] + ", ";
            Due.is(call + "0)", x.chance((int) d[0], (int) d[1], 0), d[2]);
            Due.is(call + "1)", x.chance((int) d[0], (int) d[1], 1), d[3]);
        }
        int[][] bad = {{102, 2, 0}, {102, -1, 0}, {102, 1, 2}, {102, 1, -1}, {101, 0, 0}, {110, 0, 0}, {1302, 0, 0}, {2, 0, 0},
            {-1, 0, 0}, {1209, 13, 1}};
        for (int[] b : bad) {
            Due.is("25: chance(" + b[0] + ", " + b[1] + ", " + b[2] + ")", x.chance(b[0], b[1], b[2]), NONE);
        }
    }
}
