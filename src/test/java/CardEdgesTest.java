/** The edges of promises 2 to 8: how many cards, how much of a row, which numbers, bytes and texts; what they may be. */
final class CardEdgesTest {
    private static final int MOST = Integer.MAX_VALUE, LEAST = Integer.MIN_VALUE, VOID = -2000000000;

    public static void main(String[] args) {
        twelveCards();
        rowsOfEachLength();
        placesOfARow();
        placesWhereAllIsSo();
        cardsTillFull();
        cardsRefused();
        numbers();
        values();
        filed();
        tape();
        everyByte();
        digits();
        sixOpen();
        lines();
        held();
        arithmetic();
        faultyLaw();
        withoutText();
        maybeSame();
        alikeRefused();
        Due.end("CardEdgesTest");
    }

    private static void twelveCards() {
        TenInDrawers x = new TenInDrawers();
        for (int i = 0; i <= 11; i++) {
            Due.is("2: cards as they come", x.card(), i);
        }
        Due.is("2: FULL: a thirteenth", x.card(), -3);
        Due.is("2: FULL: still", x.card(), -3);
        Due.is("2: FULL changes nothing", x.count(0), 12);
        TenInDrawers y = Due.cabinet(11);
        sortsAndRidges(y, 20);
        Due.is("2: the twelfth from a row", y.cards(0, 0, 1), 1);
        Due.is("2: FULL behind cards from a row", y.card(), -3);
        TenInDrawers z = new TenInDrawers();
        z.mend(0, 2, 5);
        z.card();
        z.mend(0, 0, 3);
        z.mend(0, 1, 30);
        z.card();
        for (int f = 0; f <= 9; f++) {
            Due.is("2: SORT 1 at first", z.of(100 + f, 0), 1);
            Due.is("2: RIDGES 10 at first", z.of(100 + f, 1), 10);
        }
        Due.is("2: not yet FILED at first", z.of(1, 10), VOID);
        Due.is("2: NEAR is of all cards", z.of(0, 2), 5);
    }

    /** Row 0 of so many bytes: sort and ridges by turns. */
    private static void sortsAndRidges(TenInDrawers x, int n) {
        x.row(0, 0, n);
        for (int i = 0; i < n; i++) {
            x.put(0, i, i % 2 == 0 ? i / 2 % 6 : 30 - i % 31);
        }
    }

    private static void rowsOfEachLength() {
        for (int length = 0; length <= 60; length++) {
            for (int n = 1; n <= 3; n++) {
                TenInDrawers x = new TenInDrawers();
                sortsAndRidges(x, length);
                int due = Math.min(n, length / 20);
                Due.is("3: " + n + " from a row of " + length, x.cards(0, 0, n), due);
                Due.is("3: so many cards then", x.count(0), due);
                if (due > 0) {
                    int last = 20 * due - 2;
                    Due.is("3: SORT of the last finger", x.of(100 * (due - 1) + 9, 0), last / 2 % 6);
                    Due.is("3: RIDGES of the last finger", x.of(100 * (due - 1) + 9, 1), 30 - (last + 1) % 31);
                }
            }
        }
    }

    private static void placesOfARow() {
        int[][] due = {{LEAST, 0}, {-20, 0}, {-1, 0}, {0, 3}, {1, 0}, {2, 2}, {20, 2}, {22, 1}, {40, 1}, {41, 0}, {42, 0}, {59, 0}, {60, 0},
            {61, 0}, {MOST - 19, 0}, {MOST, 0}};
        for (int[] d : due) {
            TenInDrawers x = new TenInDrawers();
            x.row(0, 0, 60);
            for (int i = 0; i < 60; i++) {
                // Told at an odd place, ridges 6 would be a sort: none.
                x.put(0, i, i % 2 == 0 ? 3 : 6);
            }
            Due.is("3: three from place " + d[0], x.cards(0, d[0], 3), d[1]);
            Due.is("3: so many from place " + d[0], x.count(0), d[1]);
        }
        TenInDrawers x = new TenInDrawers();
        sortsAndRidges(x, 60);
        x.put(0, 20 + 18, 6);
        Due.is("3: the second is not so: the one ahead came", x.cards(0, 0, 3), 1);
        Due.is("3: the third did not come behind it", x.count(0), 1);
        x.put(0, 20 + 18, 5);
        x.put(0, 20 + 19, 31);
        Due.is("3: nor with RIDGES 31 at its end", x.cards(0, 0, 3), 1);
        x.put(0, 20 + 19, 30);
        Due.is("3: SORT 5 and RIDGES 30 are so", x.cards(0, 0, 3), 3);
        Due.is("3: bandaged", x.of(309, 0), 5);
        Due.is("3: RIDGES 30", x.of(309, 1), 30);
        Due.is("3: it is no change", x.count(3), 0);
        Due.is("3: not FILED", x.of(3, 10), VOID);
    }

    /** Each byte would do as a SORT and as RIDGES: only where the row ends tells what comes. */
    private static void placesWhereAllIsSo() {
        for (int i = -61; i <= 61; i++) {
            TenInDrawers x = new TenInDrawers();
            x.row(0, 0, 60);
            for (int k = 0; k < 60; k++) {
                x.put(0, k, 1);
            }
            int due = i < 0 ? 0 : (60 - Math.min(i, 60)) / 20;
            Due.is("3: from place " + i + " on", x.cards(0, i, 3), due);
            Due.is("3: so many from place " + i, x.count(0), due);
            // What is ahead of the place, and what is behind the cards wanted, need not be so.
            for (int k = 0; k < 60; k++) {
                x.put(0, k, k >= 20 && k < 40 ? 1 : 99);
            }
            Due.is("3: just from place 20, just one", x.cards(0, 20, 1), 1);
        }
    }

    private static void cardsTillFull() {
        int[][] due = {{9, 3, 3}, {10, 3, 2}, {11, 3, 1}, {12, 3, 0}, {10, 2, 2}, {11, 2, 1}, {11, 1, 1}, {12, 1, 0}};
        for (int[] d : due) {
            TenInDrawers x = Due.cabinet(d[0]);
            x.row(0, 0, 60);
            Due.is("3: " + d[1] + " to " + d[0] + " cards", x.cards(0, 0, d[1]), d[2]);
            Due.is("3: then there are", x.count(0), d[0] + d[2]);
        }
        TenInDrawers x = Due.cabinet(12);
        Due.is("3: CARDS are FULL, the row is missing", x.cards(0, 0, 3), 0);
        x.row(0, 1, 20);
        Due.is("3: CARDS are FULL, no row of bytes", x.cards(0, 0, 3), -12);
        Due.is("3: CARDS are FULL, four", x.cards(0, 0, 4), -1);
    }

    private static void cardsRefused() {
        TenInDrawers x = new TenInDrawers();
        x.body(0);
        x.keep(1, 0);
        x.row(2, 1, 20);
        x.row(3, 0, 60);
        int[][] due = {{-1, 1, -1}, {0, 1, 0}, {5, 1, 0}, {6, 1, -1}, {MOST, 1, -1}, {LEAST, 1, -1}, {3, 0, -1}, {3, -1, -1}, {3, 4, -1},
            {3, MOST, -1}, {3, LEAST, -1}, {0, 0, -1}, {0, 4, -1}, {1, 0, -1}, {1, 4, -1}, {2, 4, -1}, {1, 1, -12}, {1, 3, -12},
            {2, 1, -12}, {2, 3, -12}};
        for (int[] d : due) {
            Due.is("3: cards(" + d[0] + ", 0, " + d[1] + ")", x.cards(d[0], 0, d[1]), d[2]);
        }
        Due.is("3: none came", x.count(0), 0);
        Due.is("3: one is let through", x.cards(3, 0, 1), 1);
        Due.is("3: three are let through", x.cards(3, 0, 3), 3);
    }

    private static void numbers() {
        for (int cards : new int[] {0, 1, 2, 12}) {
            TenInDrawers x = Due.cabinet(cards);
            for (int cf : new int[] {0, 9, 10, 99, 100, 109, 110, 199, 200, 1100, 1109, 1110, 1199, 1200, 1209, -1, -100, MOST, LEAST}) {
                boolean there = cf >= 0 && cf / 100 < cards && cf % 100 <= 9;
                String of = " of " + cf + ", " + cards + " cards";
                Due.is("5: SORT" + of, x.of(cf, 0), there ? 1 : -1);
                Due.is("5: RIDGES" + of, x.of(cf, 1), there ? 10 : -1);
                Due.is("4: SORT" + of, x.mend(cf, 0, 2), there ? 1 : -1);
                Due.is("4: RIDGES" + of, x.mend(cf, 1, 11), there ? 10 : -1);
                Due.is("5: NEAR" + of, x.of(cf, 2), cf == 0 ? 1 : -1);
                Due.is("4: NEAR" + of, x.mend(cf, 2, 1), cf == 0 ? 1 : -1);
                for (int what : new int[] {-1, 3, 9, 11, MOST, LEAST}) {
                    Due.is("5: what " + what + of, x.of(cf, what), -1);
                    Due.is("4: what " + what + of, x.mend(cf, what, 1), -1);
                }
                Due.is("4: FILED is not mended" + of, x.mend(cf, 10, 1), -1);
            }
        }
    }

    private static void values() {
        TenInDrawers x = Due.cabinet(1);
        int[] most = {5, 30, 9};
        int[] first = {1, 10, 1};
        for (int what = 0; what <= 2; what++) {
            int was = first[what];
            for (int v = 0; v <= most[what]; v++) {
                Due.is("4: what " + what + " becomes " + v, x.mend(0, what, v), was);
                Due.is("5: what " + what + " is", x.of(0, what), v);
                was = v;
            }
            for (int v : new int[] {-1, most[what] + 1, 100, MOST, LEAST}) {
                Due.is("4: what " + what + " can't become " + v, x.mend(0, what, v), -1);
                Due.is("4: what " + what + " stays", x.of(0, what), was);
            }
        }
        TenInDrawers y = new TenInDrawers();
        Due.is("4: NEAR without CARDS", y.mend(0, 2, 9), 1);
        Due.is("5: NEAR without CARDS", y.of(0, 2), 9);
    }

    private static void filed() {
        TenInDrawers x = Due.cabinet(12);
        x.file(0, 0);
        x.file(11, 1023);
        int[][] due = {{0, 0}, {11, 1023}, {1, VOID}, {12, -1}, {-1, -1}, {100, -1}, {MOST, -1}, {LEAST, -1}};
        for (int[] d : due) {
            Due.is("5: FILED of " + d[0], x.of(d[0], 10), d[1]);
        }
        Due.is("5: FILED without CARDS", new TenInDrawers().of(0, 10), -1);
    }

    private static void tape() {
        TenInDrawers x = new TenInDrawers();
        int[] bad = {-1, 256, MOST, LEAST};
        for (int b : bad) {
            Due.is("6: no byte " + b, x.feed(b), -1);
        }
        Due.is("6: BAD changes nothing", x.count(2), 0);
        for (int i = 1; i <= 120; i++) {
            Due.is("6: how many it has", x.feed(i == 1 ? 255 : 0), i);
        }
        Due.is("6: FULL: one more", x.feed('1'), -3);
        for (int b : bad) {
            Due.is("6: BAD ahead of FULL: " + b, x.feed(b), -1);
        }
        Due.is("6: FULL changes nothing", x.count(2), 120);
        Due.is("7: byte 255 begins no TEXT", x.law(), -100);
        Due.is("7: THE TAPE is empty then", x.count(2), 0);
        Due.is("6: it has room again", x.feed('1'), 1);
        Due.is("7: THE TAPE is THE LAW", x.law(), 1);
        Due.is("7: THE TAPE is empty then, too", x.count(2), 0);
    }

    /** Each byte as the first of a text, behind a number, and behind a number in brackets. */
    private static void everyByte() {
        for (int b = 0; b <= 255; b++) {
            boolean digit = b >= '0' && b <= '9';
            boolean ends = digit || "fstrkn".indexOf(b) >= 0;
            boolean opens = b == '(' || b == '!' || b == '-';
            boolean joins = "+-*/%<=>&|".indexOf(b) >= 0;
            Due.is("7: byte " + b + " first", byteBehind("", b), ends ? 1 : opens ? -101 : -100);
            Due.is("7: byte " + b + " behind 1", byteBehind("1", b), digit ? 1 : joins || b == '?' || b == ';' ? -102 : -101);
            Due.is("7: byte " + b + " behind (1", byteBehind("(1", b), b == ')' ? 1 : digit || joins ? -103 : -102);
            Due.is("7: byte " + b + " behind 1?", byteBehind("1?", b), ends ? 1 : opens ? -103 : -102);
            Due.is("7: byte " + b + " behind 1?2", byteBehind("1?2", b), digit ? 1 : joins || b == ';' ? -104 : -103);
            Due.is("7: byte " + b + " behind f<2", byteBehind("f<2", b),
                digit ? 1 : "+-*/%&|?;".indexOf(b) >= 0 ? -104 : -103);
        }
    }

    private static int byteBehind(String text, int b) {
        TenInDrawers x = new TenInDrawers();
        Due.feed(x, text);
        x.feed(b);
        return x.law();
    }

    private static void digits() {
        Object[][] due = {{"9", 1}, {"99", 1}, {"999", 1}, {"9999", 1}, {"99999", -104}, {"0000", 1}, {"00000", -104}, {"f1", -101},
            {"1234+5678", 1}, {"1234+56789", -109}, {"(12345)", -105}, {"12345x", -104}};
        for (Object[] d : due) {
            Due.is("7: a number of 1 to 4 digits: " + d[0], Due.law(new TenInDrawers(), (String) d[0]), (Integer) d[1]);
        }
        come("7: the greatest number", "9999-9900", 99);
        come("7: with 0 ahead", "0042", 42);
    }

    private static void come(String name, String text, int due) {
        TenInDrawers x = Due.cabinet(2);
        Due.is(name + ": law " + text, Due.law(x, text), 1);
        Due.is(name + ": alike by " + text, x.alike(1, 0), due);
    }

    private static void sixOpen() {
        char[] signs = {'(', '!', '-'};
        for (int mix = 0; mix < 729; mix++) {
            StringBuilder six = new StringBuilder();
            StringBuilder closed = new StringBuilder();
            for (int i = 0, m = mix; i < 6; i++, m /= 3) {
                six.append(signs[m % 3]);
                closed.append(m % 3 == 0 ? ")" : "");
            }
            Due.is("7: six are open: " + six, Due.law(new TenInDrawers(), six + "1" + closed), 1);
            for (char seventh : signs) {
                Due.is("7: a seventh: " + six + seventh, Due.law(new TenInDrawers(), six.toString() + seventh + "1"), -106);
            }
        }
        Object[][] due = {{"((((((1))))))*((((((1))))))", 1}, {"!!!!!!1*!!!!!!1", 1}, {"((((((1-1))))))", 1}, {"((((((1--1))))))", -108},
            {"(((((!1+!1)))))", 1}, {"((((((1+!1))))))", -108}, {"(((((1)))))+(((((((1)))))))", -118}, {"!!!!!(1)", 1},
            {"!!!!!(1+-1)", -108}, {"!!!!!1+(1)", 1}, {"((((((1)+(1)))))", -116}, {"1?------1;------1", 1}, {"1?-------1", -108}};
        for (Object[] d : due) {
            Due.is("7: at most 6 are open: " + d[0], Due.law(new TenInDrawers(), (String) d[0]), (Integer) d[1]);
        }
    }

    private static void lines() {
        String no = "0?1;0?1;0?1;0?1;0?1;0?1;0?1;0?1;0?1;0?1;0?1;0?1;0?1;0?1;0?1;0?1;0?1;0?1;0?1;0?1;0?1;0?1;0?1;0?1;0?1;0?1;0?1;0?1;0?1;";
        Due.is("7: no LINE", new TenInDrawers().law(), -100);
        come("7: one LINE", "7", 7);
        come("7: 120 bytes, the last LINE counts", no + "1?98", 98);
        come("7: 120 bytes, none counts", no + "0?98", 0);
        come("7: 117 bytes, the last without a first E", no + "5", 5);
        come("7: one LINE that does not count", "0?5", 0);
        come("7: a first E below 0 is not 0", "0-1?5", 5);
        come("7: the first that counts", "0?5;1?6;1?7;8", 6);
        come("7: behind a LINE without a first E none counts", "4;1?6", 4);
        come("7: 0 counts, too", "1?0;6", 0);
        StringBuilder many = new StringBuilder("6");
        while (many.length() < 119) {
            many.append(";5");
        }
        come("7: 60 LINES", many.toString(), 6);
        Due.is("7: 120 bytes end too early", Due.law(new TenInDrawers(), many + ";"), -220);
        Due.is("7: the last byte of 120 is not so", Due.law(new TenInDrawers(), many + "x"), -219);
    }

    private static void held() {
        come("7: held, 98", "98", 98);
        come("7: held, 99", "99", 99);
        come("7: held, 100", "100", 99);
        come("7: held, the greatest int", "8192*8192*32-1", 99);
        come("7: held, 1", "1", 1);
        come("7: held, 0", "0", 0);
        come("7: held, -1", "-1", 0);
        come("7: held, the least int", "8192*8192*32", 0);
    }

    private static void arithmetic() {
        come("7: + wraps", "8192*8192*32-1+1<0", 1);
        come("7: - wraps", "8192*8192*32-1>0", 1);
        come("7: * wraps", "8192*8192*64+7", 7);
        come("7: - ahead wraps", "-(8192*8192*32)=8192*8192*32", 1);
        come("7: / wraps", "8192*8192*32/-1=8192*8192*32", 1);
        come("7: % of the least int by -1", "8192*8192*32%-1+5", 5);
        come("7: / toward 0", "-7/2+10", 7);
        come("7: / toward 0", "7/-2+10", 7);
        come("7: / toward 0", "-7/-2+10", 13);
        come("7: % toward 0", "-7%3+10", 9);
        come("7: % toward 0", "7%-3+10", 11);
        come("7: / by 0", "7/0+3", 3);
        come("7: % by 0", "7%0+3", 3);
        come("7: 0 by 0", "0/0+0%0+3", 3);
        come("7: / by 0 in what does not count", "0?1/0;1|1/0", 1);
        come("7: | of what is below 0", "0|-1", 1);
        come("7: | gives 1", "5|6", 1);
        come("7: & gives 1", "5&-6", 1);
        come("7: & with 0", "5&0", 0);
        come("7: ! of what is below 0", "!-1", 0);
        come("7: < of like ones", "3<3", 0);
        come("7: > of like ones", "3>3", 0);
        come("7: = of like ones", "3=3", 1);
    }

    private static void faultyLaw() {
        TenInDrawers x = Due.cabinet(2);
        Due.is("7: FAULT 0", Due.law(x, "x"), -100);
        Due.is("7: THE LAW stays, without a text", x.alike(1, 0), 10);
        Due.law(x, "55");
        Due.is("7: FAULT 3", Due.law(x, "44+"), -103);
        Due.is("7: THE TAPE is empty then", x.count(2), 0);
        Due.is("7: THE LAW stays", x.alike(1, 0), 55);
        Due.is("7: no TEXT", x.law(), -100);
        Due.is("7: THE LAW stays", x.alike(1, 0), 55);
        lawBehindLongerOnes();
        Due.is("7: the first byte with which none goes on, not the last", Due.law(x, "1))x"), -101);
    }

    /** Of a law that was, nothing counts any more, though it had more lines. */
    private static void lawBehindLongerOnes() {
        String[] longer = {"1;5;1+1;6;7", "1?2;3;4;5;6;7;8;9", "f+9*9;s+t;88;77;66", "0?1;0?2;0?3;0?4;55;44;33", "0?1;2+3+4+5+6+7;8+9", "1+-"};
        for (String was : longer) {
            for (String is : new String[] {"0?2", "0?2;0?3", "0", "0?2+3", "0?1?", "s=3?9", "!1?7"}) {
                TenInDrawers x = Due.cabinet(2);
                Due.law(x, "33");
                Due.law(x, was);
                int before = x.alike(1, 0);
                boolean stands = Due.law(x, is) == 1;
                Due.is("7: " + is + " behind " + was, x.alike(1, 0), stands ? 0 : before);
            }
        }
    }

    private static void withoutText() {
        TenInDrawers x = Due.cabinet(2);
        x.mend(0, 1, 0);
        for (int r = 0; r <= 30; r++) {
            x.mend(100, 1, r);
            Due.is("8: 10 less " + r + ", 0 at least", x.alike(1, 0), Math.max(0, 10 - r));
            Due.is("8: 10 less " + r + ", turned", x.alike(100, 0), Math.max(0, 10 - r));
        }
        x.mend(100, 0, 2);
        x.mend(100, 1, 0);
        Due.is("8: k 0, r 0", x.alike(1, 0), 0);
    }

    /** What each sort may be, as bits; two may be the same if they have one bit both. */
    private static void maybeSame() {
        int[] mayBe = {1, 2, 4, 8, 2 + 8, 1 + 2 + 4 + 8};
        for (int s = 0; s <= 5; s++) {
            for (int t = 0; t <= 5; t++) {
                TenInDrawers x = Due.cabinet(2);
                x.mend(0, 0, s);
                x.mend(100, 0, t);
                int k = (mayBe[s] & mayBe[t]) != 0 ? 1 : 0;
                Due.is("8: may " + s + " and " + t + " be the same", x.alike(1, 0), 10 * k);
                Due.law(x, "k*9+s");
                Due.is("8: k of " + s + " and " + t, x.alike(1, 0), 9 * k + s);
                Due.is("15: of how many FINGERS, " + s + " and " + t, x.same(1, 0), 9 + k);
            }
        }
    }

    private static void alikeRefused() {
        for (int cards : new int[] {0, 1, 2, 12}) {
            TenInDrawers x = Due.cabinet(cards);
            for (int ab : new int[] {0, 1, 11, 12, 99, 100, 101, 111, 112, 199, 200, 1100, 1111, 1112, 1200, -1, -100, -101, MOST, LEAST}) {
                boolean there = ab >= 0 && ab / 100 < cards && ab % 100 < cards;
                for (int f : new int[] {-1, 0, 9, 10, MOST, LEAST}) {
                    boolean finger = f == 0 || f == 9;
                    Due.is("8: alike(" + ab + ", " + f + ") of " + cards, x.alike(ab, f), there && finger ? 10 : -1);
                }
            }
        }
    }
}
