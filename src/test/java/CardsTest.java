/** Promises 1 to 8: cards, cards from rows, changes of what is told, the tape, the law. */
final class CardsTest {
    private static final int VOID = -2000000000;

    public static void main(String[] args) {
        newObject();
        card();
        cards();
        cardsFromBelow();
        cardsNotSo();
        cardsRefused();
        mendAndOf();
        feed();
        lawsThatStand();
        faults();
        lawOnFault();
        alike();
        lawOutcomes();
        Due.end("CardsTest");
    }

    private static void newObject() {
        TenInDrawers x = new TenInDrawers();
        for (int what = 0; what <= 5; what++) {
            Due.is("1: count(" + what + ")", x.count(what), 0);
        }
        for (int what = 0; what <= 4; what++) {
            Due.is("1: led(" + what + ")", x.led(what), 0);
        }
        Due.is("1: of(0, 2)", x.of(0, 2), 1);
        Due.is("1: of(0, 0)", x.of(0, 0), -1);
        Due.is("1: undo", x.undo(), -5);
        Due.is("1: redo", x.redo(), -5);
        Due.is("1: back", x.back(), -5);
        Due.is("1: trace(0)", x.trace(0), -1);
        for (int s = 0; s < 6; s++) {
            Due.is("1: element(" + s + ", 0)", x.element(s, 0), Long.MIN_VALUE);
            Due.is("1: put(" + s + ", 0, 1)", x.put(s, 0, 1), -11);
        }
    }

    private static void card() {
        TenInDrawers x = new TenInDrawers();
        for (int i = 0; i < 12; i++) {
            Due.is("2: card", x.card(), i);
        }
        Due.is("2: card, full", x.card(), -3);
        Due.is("2: count(0)", x.count(0), 12);
        for (int f = 0; f < 10; f++) {
            Due.is("2: sort at first", x.of(1100 + f, 0), 1);
            Due.is("2: ridges at first", x.of(1100 + f, 1), 10);
        }
        Due.is("2: filed at first", x.of(11, 10), VOID);
    }

    private static void plainCards(TenInDrawers x, int shelf, int elements) {
        x.row(shelf, 0, elements);
        for (int i = 0; i < elements; i++) {
            x.put(shelf, i, i % 2 == 0 ? i / 2 % 6 : i % 31);
        }
    }

    private static void cards() {
        TenInDrawers x = new TenInDrawers();
        plainCards(x, 0, 60);
        Due.is("3: three", x.cards(0, 0, 3), 3);
        Due.is("3: count", x.count(0), 3);
        for (int i = 0; i < 60; i += 7) {
            int cf = 100 * (i / 20) + i % 20 / 2;
            Due.is("3: of " + i, x.of(cf, i % 2), i % 2 == 0 ? i / 2 % 6 : i % 31);
        }
        Due.is("3: not filed", x.of(2, 10), VOID);
        Due.is("3: no changes", x.count(3), 0);
        Due.is("3: one", x.cards(0, 40, 1), 1);
        Due.is("3: the row ends", x.cards(0, 20, 3), 2);
        Due.is("3: ends within a card", x.cards(0, 22, 3), 1);
        Due.is("3: sort of the card from 22", x.of(600, 0), 11 % 6);
        Due.is("3: just too late", x.cards(0, 41, 1), 0);
        Due.is("3: far too late", x.cards(0, Integer.MAX_VALUE, 3), 0);
        Due.is("3: nothing on the shelf", x.cards(1, 0, 2), 0);
        Due.is("3: count", x.count(0), 7);
        x.put(0, 20, 6);
        Due.is("3: no sort in the second", x.cards(0, 0, 3), 1);
        x.put(0, 20, 5);
        x.put(0, 59, 31);
        Due.is("3: no ridges in the third", x.cards(0, 0, 3), 2);
        x.put(0, 1, -1);
        Due.is("3: ridges below 0", x.cards(0, 0, 1), 0);
        x.put(0, 1, 0);
        x.put(0, 0, -1);
        Due.is("3: sort below 0", x.cards(0, 0, 1), 0);
        x.put(0, 0, 0);
        Due.is("3: till full", x.cards(0, 0, 2), 2);
        Due.is("3: full", x.cards(0, 0, 2), 0);
        TenInDrawers y = Due.cabinet(11);
        plainCards(y, 3, 40);
        Due.is("3: full within", y.cards(3, 0, 2), 1);
        Due.is("3: count, full", y.count(0), 12);
    }

    private static void cardsNotSo() {
        for (int at = 0; at < 20; at++) {
            for (int wrong : new int[] {-1, at % 2 == 0 ? 6 : 31, 127, -128}) {
                TenInDrawers x = new TenInDrawers();
                plainCards(x, 4, 45);
                x.put(4, 20 + at, wrong);
                Due.is("3: not so at " + at, x.cards(4, 20, 2), 0);
                x.put(4, 20 + at, at % 2 == 0 ? 5 : 30);
                Due.is("3: so at " + at, x.cards(4, 20, 2), 1);
                Due.is("3: it came", x.of(at / 2, at % 2), at % 2 == 0 ? 5 : 30);
                Due.is("3: just one", x.cards(4, 0, 1), 1);
                Due.is("3: and it", x.of(101, 1), 3);
            }
        }
    }

    private static void cardsRefused() {
        TenInDrawers x = new TenInDrawers();
        Due.is("3: shelf -1", x.cards(-1, 0, 1), -1);
        Due.is("3: shelf 6", x.cards(6, 0, 1), -1);
        Due.is("3: none", x.cards(0, 0, 0), -1);
        Due.is("3: four", x.cards(0, 0, 4), -1);
        x.body(0);
        x.keep(0, 0);
        Due.is("3: a print", x.cards(0, 0, 1), -12);
        Due.is("3: a print, four", x.cards(0, 0, 4), -1);
        Due.is("3: a print, place -1", x.cards(0, -1, 1), -12);
        for (int sort = 1; sort <= 4; sort++) {
            x.row(1, sort, 20);
            Due.is("3: a row of " + sort, x.cards(1, 0, 1), -12);
            Due.is("3: a row of " + sort + ", place -1", x.cards(1, -1, 1), -12);
        }
        Due.is("3: none came", x.count(0), 0);
    }

    private static void cardsFromBelow() {
        int[] below = {-1, -2, -19, -20, -21, -40, -41, -60, Integer.MIN_VALUE + 20, Integer.MIN_VALUE};
        TenInDrawers x = new TenInDrawers();
        plainCards(x, 0, 60);
        x.row(1, 0, 0);
        for (int i : below) {
            for (int n = 1; n <= 3; n++) {
                String call = "(.., " + i + ", " + n + ")";
                Due.is("3: a row ends there, cards" + call, x.cards(0, i, n), 0);
                Due.is("3: an empty row, cards" + call, x.cards(1, i, n), 0);
                Due.is("3: no row, cards" + call, x.cards(2, i, n), 0);
            }
            Due.is("3: shelf -1, place " + i, x.cards(-1, i, 1), -1);
            Due.is("3: shelf 6, place " + i, x.cards(6, i, 1), -1);
            Due.is("3: none, place " + i, x.cards(0, i, 0), -1);
            Due.is("3: four, place " + i, x.cards(2, i, 4), -1);
        }
        Due.is("3: none came from below", x.count(0), 0);
        Due.is("3: from 0 they come", x.cards(0, 0, 3), 3);
    }

    private static void mendAndOf() {
        TenInDrawers x = Due.cabinet(2);
        Due.is("4: sort", x.mend(103, 0, 5), 1);
        Due.is("4: sort again", x.mend(103, 0, 0), 5);
        Due.is("5: sort", x.of(103, 0), 0);
        Due.is("5: another finger", x.of(102, 0), 1);
        Due.is("5: another card", x.of(3, 0), 1);
        Due.is("4: ridges", x.mend(9, 1, 30), 10);
        Due.is("5: ridges", x.of(9, 1), 30);
        Due.is("4: ridges 0", x.mend(9, 1, 0), 30);
        Due.is("5: ridges 0", x.of(9, 1), 0);
        Due.is("4: near", x.mend(0, 2, 9), 1);
        Due.is("5: near", x.of(0, 2), 9);
        Due.is("4: near 0", x.mend(0, 2, 0), 9);
        Due.is("3 of 49: changes", x.count(3), 6);
        int[][] bad = {{103, 0, 6}, {103, 0, -1}, {9, 1, 31}, {9, 1, -1}, {0, 2, 10}, {0, 2, -1}, {1, 2, 1}, {-1, 2, 1},
            {110, 0, 1}, {10, 1, 1}, {99, 0, 1}, {200, 0, 1}, {-1, 0, 1}, {-100, 1, 1}, {0, 3, 1}, {0, -1, 1}, {0, 10, 1},
            {Integer.MIN_VALUE, 0, 1}, {Integer.MAX_VALUE, 1, 1}};
        for (int[] b : bad) {
            Due.is("4: mend(" + b[0] + ", " + b[1] + ", " + b[2] + ")", x.mend(b[0], b[1], b[2]), -1);
        }
        Due.is("4: nothing changed", x.count(3), 6);
        int[][] none = {{110, 0}, {200, 1}, {-1, 0}, {1, 2}, {-1, 2}, {0, 3}, {0, -1}, {2, 10}, {-1, 10}, {0, 9}, {0, 11}};
        for (int[] b : none) {
            Due.is("5: of(" + b[0] + ", " + b[1] + ")", x.of(b[0], b[1]), -1);
        }
        Due.is("5: not filed", x.of(1, 10), VOID);
        x.file(1, 77);
        Due.is("5: filed", x.of(1, 10), 77);
        Due.is("5: the other", x.of(0, 10), VOID);
    }

    private static void feed() {
        TenInDrawers x = new TenInDrawers();
        Due.is("6: 0", x.feed(0), 1);
        Due.is("6: 255", x.feed(255), 2);
        Due.is("6: 256", x.feed(256), -1);
        Due.is("6: -1", x.feed(-1), -1);
        Due.is("6: count(2)", x.count(2), 2);
        for (int i = 3; i <= 120; i++) {
            Due.is("6: so many", x.feed('1'), i);
        }
        Due.is("6: full", x.feed('1'), -3);
        Due.is("6: bad before full", x.feed(256), -1);
        Due.is("6: count(2), full", x.count(2), 120);
        Due.is("7: byte 0 is no sign", x.law(), -100);
        Due.is("7: empty then", x.count(2), 0);
        Due.is("6: again", x.feed('1'), 1);
    }

    private static void lawsThatStand() {
        String[] texts = {"0", "9999", "0000", "f", "s+t-r*k/n%f", "1?2", "1?2;3", "1;2;3?4", "((((((1))))))", "!!!!!!1", "------1",
            "(!(-(!1)))", "1--1", "1<2", "(1<2)<3", "1<2&3=4|5>6", "-1?-2", "(1)?(2)", "!(1)*-(2)", "(((((1)))))+((((((1))))))",
            "!!!!!!1+!!!!!!1", "12|34&56"};
        for (String t : texts) {
            TenInDrawers x = new TenInDrawers();
            Due.is("7: law " + t, Due.law(x, t), 1);
            Due.is("7: empty then", x.count(2), 0);
        }
        StringBuilder longest = new StringBuilder("f");
        for (int i = 1; i < 119; i += 2) {
            longest.append("+1");
        }
        Due.is("7: 119 bytes", Due.law(new TenInDrawers(), longest.toString()), 1);
        Due.is("7: 120 bytes", Due.law(new TenInDrawers(), longest + "1"), 1);
        Due.is("7: 120 bytes, too early", Due.law(new TenInDrawers(), longest + "+"), -220);
    }

    private static void faults() {
        Object[][] texts = {{"", 0}, {"x", 0}, {" 1", 0}, {"1 ", 1}, {"1+", 2}, {"1+*2", 2}, {"12345", 4}, {"1?", 2}, {"1?2?3", 3},
            {"1;", 2}, {";1", 0}, {"1;;2", 2}, {"?1", 0}, {"(1", 2}, {"(1?2)", 2}, {"(1;2)", 2}, {"1)", 1}, {"()", 1}, {"1<2<3", 3},
            {"1=2>3", 3}, {"1<2&3<4<5", 7}, {"(((((((1)))))))", 6}, {"!!!!!!!1", 6}, {"-------1", 6}, {"(!-(!-(1", 6}, {"((((((!1", 6},
            {"((((((", 6}, {"1f", 1}, {"f1", 1}, {"fs", 1}, {"1(2)", 1}, {"1!", 1}, {"+1", 0}, {"a", 0}, {"K", 0}, {"1+A", 2},
            {"1==2", 2}, {"1||2", 2}, {"1&&2", 2}, {"1<=2", 2}, {"(1)(2)", 3}, {"1?2;3?4;5?", 10}, {"!", 1}, {"((1)", 4},
            {"\u00ff", 0}, {"1\u0000", 1}, {"!)", 1}, {"1>", 2}, {"123?1234;1234567", 13}};
        for (Object[] t : texts) {
            TenInDrawers x = new TenInDrawers();
            Due.is("7: fault of " + t[0], Due.law(x, (String) t[0]), -100 - (Integer) t[1]);
            Due.is("7: empty then", x.count(2), 0);
        }
    }

    private static void lawOnFault() {
        TenInDrawers x = Due.cabinet(2);
        Due.is("7: law 7", Due.law(x, "7"), 1);
        Due.is("7: faulty", Due.law(x, "8+"), -102);
        Due.is("7: the law stays", x.alike(1, 0), 7);
        Due.is("7: no text", x.law(), -100);
        Due.is("7: the law stays", x.alike(1, 0), 7);
        Due.is("7: law 9", Due.law(x, "9"), 1);
        Due.is("7: the new one", x.alike(1, 0), 9);
    }

    private static void alike() {
        TenInDrawers x = Due.cabinet(2);
        Due.sorts(x, 0, "0123455123");
        Due.sorts(x, 1, "0123430541");
        Due.ridges(x, 0, 10, 0, 30, 10, 10, 10, 10, 10, 10, 10);
        Due.ridges(x, 1, 13, 30, 21, 9, 11, 12, 10, 10, 10, 10);
        int[] due = {7, 0, 1, 9, 9, 8, 10, 10, 0, 0};
        for (int f = 0; f < 10; f++) {
            Due.is("8: alike(1, " + f + ")", x.alike(1, f), due[f]);
            Due.is("8: alike(100, " + f + ")", x.alike(100, f), due[f]);
        }
        Due.is("8: of itself", x.alike(101, 4), 10);
        Due.is("8: card 0 of itself", x.alike(0, 0), 10);
        int[][] bad = {{2, 0}, {200, 0}, {1, 10}, {1, -1}, {-1, 0}, {12, 0}, {Integer.MAX_VALUE, 0}, {Integer.MIN_VALUE, 0}, {99, 1}};
        for (int[] b : bad) {
            Due.is("8: alike(" + b[0] + ", " + b[1] + ")", x.alike(b[0], b[1]), -1);
        }
        Due.law(x, "s*10+t");
        Due.is("8: s and t", x.alike(1, 9), 31);
        Due.is("8: s and t turned", x.alike(100, 9), 13);
        Due.law(x, "f*10+k");
        Due.is("8: f and k", x.alike(1, 7), 71);
        Due.is("8: f and no k", x.alike(1, 8), 80);
        Due.law(x, "r+n*40");
        Due.is("8: r and n", x.alike(1, 2), 49);
        Due.is("8: r and n turned", x.alike(100, 1), 70);
        x.mend(0, 2, 0);
        Due.is("8: n 0", x.alike(1, 1), 30);
    }

    private static void lawOutcomes() {
        Object[][] laws = {{"5", 5}, {"99", 99}, {"100", 99}, {"-1", 0}, {"0", 0}, {"2+3*4", 14}, {"(2+3)*4", 20}, {"20-5-3", 12},
            {"7/2", 3}, {"50+-7/2", 47}, {"50+-7%3", 49}, {"7%3", 1}, {"7/0+5", 5}, {"7%0+6", 6}, {"100/10/5", 2}, {"90%50%7", 5},
            {"2*7/3", 4}, {"3|0", 1}, {"0|0", 0}, {"0|-7", 1}, {"3&4", 1}, {"3&0", 0}, {"2&4|0", 1}, {"0&1|1", 1}, {"1|1&0", 1},
            {"1<2", 1}, {"2<1", 0}, {"2<2", 0}, {"2=2", 1}, {"2=3", 0}, {"3>2", 1}, {"2>2", 0}, {"!5", 0}, {"!0", 1}, {"!!7", 1},
            {"--5", 5}, {"10-!0", 9}, {"-2*-3", 6}, {"!0*9", 9}, {"!(1<2)+4", 4}, {"1<2+3", 1}, {"0&0=0", 0}, {"2=2&3=3", 1},
            {"9999*9999*9999<0", 1}, {"9999*9999>0", 1}, {"8192*8192*32<0", 1}, {"8192*8192*32/-1<0", 1}, {"8192*8192*32%-1+3", 3},
            {"-(8192*8192*32)<0", 1}, {"1?2;3", 2}, {"0?2;3", 3}, {"0?2", 0}, {"0?2;0?3", 0}, {"0?2;0?3;44?5;6", 5}, {"-1?7", 7},
            {"7;1?8", 7}, {"1?0;9", 0}, {"0?1+2*3;4?5+6;7", 11}, {"0*(1/0)?1;8", 8}, {"1?0-5;9", 0}, {"0012", 12}, {"4-3=1&2", 1}};
        for (Object[] l : laws) {
            TenInDrawers x = Due.cabinet(2);
            Due.is("7: law " + l[0], Due.law(x, (String) l[0]), 1);
            Due.is("8: by " + l[0], x.alike(1, 0), (Integer) l[1]);
        }
    }
}
