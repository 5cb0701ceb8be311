/** The edges of promises 32 to 39: the first and the last drawer, nowhere, none filed and all, no image, 40 changes and 41. */
final class DeedEdgesTest {
    private static final int MOST = Integer.MAX_VALUE, LEAST = Integer.MIN_VALUE, VOID = -2000000000;

    public static void main(String[] args) {
        file();
        take();
        searchNone();
        searchInLine();
        searchNear();
        ledRefused();
        imageOfNothing();
        imageOfFiled();
        imageAgain();
        notUndone();
        whatIsNoChange();
        anotherBehind();
        fortyKept();
        fortyOneOfEach();
        undoneInDrawers();
        Due.end("DeedEdgesTest");
    }

    private static void file() {
        for (int cards : new int[] {0, 1, 12}) {
            TenInDrawers x = Due.cabinet(cards);
            int filed = 0;
            for (int c : new int[] {-1, 0, 1, 11, 12, 100, MOST, LEAST}) {
                boolean there = c >= 0 && c < cards;
                int was = VOID;
                for (int d : new int[] {-1, 0, 1023, 1024, MOST, LEAST, 1023}) {
                    boolean drawer = d == 0 || d == 1023;
                    String call = "file(" + c + ", " + d + ") of " + cards;
                    Due.is("32: " + call, x.file(c, d), there && drawer ? was : -1);
                    was = drawer ? d : was;
                    filed += there && drawer ? 1 : 0;
                    Due.is("32: where it is, " + call, x.of(c, 10), there ? was : -1);
                    Due.is("35: filed, " + call, x.led(0), filed);
                }
            }
            Due.is("49: FILED of " + cards, x.count(1), cards == 12 ? 3 : cards);
            Due.is("35: none taken", x.led(1), 0);
        }
    }

    private static void take() {
        for (int cards : new int[] {0, 1, 12}) {
            TenInDrawers x = Due.cabinet(cards);
            int taken = 0;
            for (int c : new int[] {-1, 0, 1, 11, 12, 100, MOST, LEAST}) {
                boolean there = c >= 0 && c < cards;
                String of = " " + c + " of " + cards;
                Due.is("33: STATE: nowhere," + of, x.take(c), there ? -5 : -1);
                Due.is("35: taken," + of, x.led(1), taken);
                x.file(c, 0);
                Due.is("33: from DRAWER 0," + of, x.take(c), there ? 0 : -1);
                Due.is("33: nowhere then," + of, x.take(c), there ? -5 : -1);
                x.file(c, 1023);
                Due.is("33: from DRAWER 1023," + of, x.take(c), there ? 1023 : -1);
                taken += there ? 2 : 0;
                Due.is("35: taken," + of, x.led(1), taken);
                Due.is("5: not FILED," + of, x.of(c, 10), there ? VOID : -1);
                Due.is("32: it was nowhere," + of, x.file(c, 7), there ? VOID : -1);
                x.take(c);
                taken += there ? 1 : 0;
            }
        }
    }

    private static void searchNone() {
        TenInDrawers x = new TenInDrawers();
        Due.is("34: NOT: no CARDS", x.search(110), -2);
        Due.is("35: a search in vain is one", x.led(2), 1);
        Due.is("35: no CARD looked at", x.led(3), 0);
        Due.is("35: none found", x.led(4), 0);
        x.card();
        Due.is("34: NOT: none FILED", x.search(110), -2);
        Due.is("35: two searches", x.led(2), 2);
        Due.is("35: still no CARD looked at", x.led(3), 0);
        Due.is("34: BAD", x.search(131), -1);
        Due.is("35: BAD is no search", x.led(2), 2);
        x.file(0, 0);
        Due.is("34: FILED", x.search(110), 0);
        Due.is("35: one looked at", x.led(3), 1);
        Due.is("35: one found", x.led(4), 1);
        x.take(0);
        Due.is("34: NOT: taken out", x.search(110), -2);
        Due.is("35: one looked at", x.led(3), 1);
    }

    /** Twelve filed cards: each in turn has the only print; all ahead of it by drawer, then by number, are looked at. */
    private static void searchInLine() {
        int[] drawer = {1023, 5, 0, 5, 1022, 0, 1023, 512, 1, 511, 5, 0};
        int[] line = {2, 5, 11, 8, 1, 3, 10, 9, 7, 4, 0, 6};
        TenInDrawers x = Due.cabinet(12);
        for (int c = 0; c < 12; c++) {
            x.file(c, drawer[c]);
        }
        int looked = 0;
        for (int i = 0; i < 12; i++) {
            x.mend(100 * line[i] + 9, 0, 3);
            looked += i + 1;
            Due.is("34: by DRAWERS upward, by numbers, " + i, x.search(310), line[i]);
            Due.is("35: CARDS looked at, " + i, x.led(3), looked);
            Due.is("35: found, " + i, x.led(4), i + 1);
            x.mend(100 * line[i] + 9, 0, 1);
        }
        Due.is("34: NOT: of all twelve none", x.search(310), -2);
        Due.is("35: all twelve looked at", x.led(3), looked + 12);
        Due.is("35: found", x.led(4), 12);
        Due.is("34: the first has it", x.search(110), 2);
        Due.is("35: one looked at", x.led(3), looked + 13);
        Due.is("35: searches", x.led(2), 14);
    }

    private static void searchNear() {
        TenInDrawers x = Due.cabinet(1);
        x.file(0, 3);
        Due.is("34: just NEAR", x.search(111), 0);
        Due.is("34: just not NEAR", x.search(112), -2);
        x.mend(0, 2, 0);
        Due.is("34: NEAR 0, one off", x.search(111), -2);
        Due.is("34: NEAR 0", x.search(110), 0);
        Due.law(x, "0");
        Due.is("34: not ALIKE at all, but it may be", x.search(110), 0);
        Due.is("34: also where it is misfiled", x.misfiled(), 1);
    }

    private static void ledRefused() {
        TenInDrawers x = Due.cabinet(1);
        x.file(0, 3);
        x.file(0, 4);
        x.file(0, 5);
        x.take(0);
        x.search(110);
        x.file(0, 5);
        x.search(110);
        x.search(310);
        int[][] due = {{LEAST, -1}, {-1, -1}, {0, 4}, {1, 1}, {2, 3}, {3, 2}, {4, 1}, {5, -1}, {MOST, -1}};
        for (int[] d : due) {
            Due.is("35: led(" + d[0] + ")", x.led(d[0]), d[1]);
        }
    }

    private static void imageOfNothing() {
        TenInDrawers x = new TenInDrawers();
        Due.is("37: STATE: there is none", x.back(), -5);
        Due.is("36: of an empty cabinet", x.image(), 0);
        Due.is("37: of an empty cabinet", x.back(), 0);
        for (int c = 0; c < 12; c++) {
            x.card();
            x.file(c, c);
        }
        x.search(110);
        x.search(310);
        Due.is("37: searches as they were", x.back(), 0);
        Due.is("37: all CARDS came since: not FILED", x.count(1), 0);
        Due.is("37: the CARDS are there", x.count(0), 12);
        for (int w = 0; w <= 4; w++) {
            Due.is("37: led(" + w + ") as it was", x.led(w), 0);
        }
    }

    private static void imageOfFiled() {
        TenInDrawers x = Due.cabinet(11);
        for (int c = 0; c < 11; c++) {
            if (c != 5) {
                x.file(c, 1023 - c);
            }
        }
        x.search(310);
        x.take(4);
        Due.is("36: searches", x.image(), 1);
        x.card();
        x.file(11, 0);
        x.file(5, 0);
        x.file(4, 9);
        x.take(10);
        x.file(0, 77);
        x.search(110);
        Due.is("37: searches", x.back(), 1);
        for (int c = 0; c < 12; c++) {
            boolean none = c == 4 || c == 5 || c == 11;
            Due.is("37: FILED of " + c, x.of(c, 10), none ? VOID : 1023 - c);
        }
        int[] led = {10, 1, 1, 10, 0};
        for (int w = 0; w <= 4; w++) {
            Due.is("37: led(" + w + ")", x.led(w), led[w]);
        }
        Due.is("34: in the line as it was", x.search(110), 10);
    }

    private static void imageAgain() {
        TenInDrawers x = Due.cabinet(1);
        x.search(110);
        x.image();
        x.file(0, 1);
        Due.is("37: laid back", x.back(), 1);
        x.file(0, 2);
        x.search(110);
        Due.is("37: laid back once more", x.back(), 1);
        Due.is("37: not FILED", x.of(0, 10), VOID);
        x.file(0, 3);
        x.search(310);
        Due.is("36: a later one", x.image(), 2);
        x.take(0);
        Due.is("37: the later one is laid back", x.back(), 2);
        Due.is("37: FILED", x.of(0, 10), 3);
    }

    private static void notUndone() {
        TenInDrawers x = Due.cabinet(1);
        Due.is("38: STATE: none", x.undo(), -5);
        Due.is("39: STATE: none", x.redo(), -5);
        x.mend(0, 0, 2);
        Due.is("39: STATE: none undone", x.redo(), -5);
        Due.is("38: the only one", x.undo(), 0);
        Due.is("38: STATE: no more", x.undo(), -5);
        Due.is("38: as it was", x.of(0, 0), 1);
        Due.is("49: none may be UNDONE", x.count(3), 0);
        Due.is("39: the only one", x.redo(), 0);
        Due.is("39: STATE: no more", x.redo(), -5);
        Due.is("39: as it became", x.of(0, 0), 2);
        Due.is("49: one may be UNDONE", x.count(3), 1);
    }

    /** Telling the same number, refusals, cards, laws, rows, acts and deeds are no changes: what was undone may be done again. */
    private static void whatIsNoChange() {
        Call[] calls = {x -> x.mend(0, 0, 1), x -> x.mend(0, 1, 10), x -> x.mend(0, 2, 1), x -> x.mend(0, 0, 6), x -> x.mend(0, 1, 31),
            x -> x.mend(0, 2, 10), x -> x.mend(100, 0, 1), x -> x.mend(0, 3, 0), x -> x.card(), x -> x.cards(0, 0, 1), x -> x.feed('1'),
            x -> x.law(), x -> x.file(0, 5), x -> x.take(0), x -> x.search(110), x -> x.image(), x -> x.back(), x -> x.body(0),
            x -> x.act(0, 3, 1), x -> x.keep(1, 0), x -> x.row(2, 0, 3), x -> x.put(2, 0, 1), x -> x.shift(2, 0, 2, 1, 1), x -> x.redo()};
        for (int i = 0; i < calls.length; i++) {
            TenInDrawers x = Due.cabinet(1);
            x.row(0, 0, 20);
            x.file(0, 4);
            x.image();
            x.body(0);
            x.mend(0, 0, 2);
            x.mend(9, 1, 11);
            x.undo();
            x.undo();
            calls[i].on(x);
            boolean redone = i == calls.length - 1;
            Due.is("38: call " + i + " is no change", x.count(3), redone ? 1 : 0);
            Due.is("39: call " + i + " takes none away", x.redo(), redone ? 0 : 1);
        }
    }

    private static void anotherBehind() {
        int[][] changes = {{9, 0, 3}, {9, 1, 0}, {0, 2, 9}};
        for (int[] c : changes) {
            TenInDrawers x = Due.cabinet(1);
            x.mend(0, 0, 2);
            x.mend(0, 0, 3);
            x.undo();
            Due.is("49: one may be UNDONE", x.count(3), 1);
            x.mend(c[0], c[1], c[2]);
            Due.is("39: STATE: another came behind", x.redo(), -5);
            Due.is("49: it may be UNDONE, too", x.count(3), 2);
            Due.is("38: it is UNDONE first", x.undo(), 1);
            Due.is("38: as it was", x.of(c[0], c[1]), c[1] == 1 ? 10 : 1);
            Due.is("38: then the one ahead", x.undo(), 0);
            Due.is("38: as it was", x.of(0, 0), 1);
            Due.is("39: DONE AGAIN in their order", x.redo(), 1);
            Due.is("39: the one ahead", x.of(0, 0), 2);
            Due.is("39: the other", x.redo(), 0);
            Due.is("39: as it became", x.of(c[0], c[1]), c[2]);
            Due.is("39: the one that went is gone", x.redo(), -5);
        }
    }

    private static void fortyKept() {
        for (int n = 38; n <= 43; n++) {
            TenInDrawers x = Due.cabinet(1);
            for (int i = 1; i <= n; i++) {
                x.mend(0, 1, 10 + i % 2);
                x.mend(0, 1, 10 + i % 2);
            }
            int kept = Math.min(n, 40);
            Due.is("38: of " + n + " at most 40 are kept", x.count(3), kept);
            for (int i = kept - 1; i >= 0; i--) {
                Due.is("38: how many may still be, of " + n, x.undo(), i);
            }
            Due.is("38: STATE: no more of " + n, x.undo(), -5);
            Due.is("38: as it was ahead of them", x.of(0, 1), 10 + (n - kept) % 2);
            for (int i = kept - 1; i >= 0; i--) {
                Due.is("39: how many may still be, of " + n, x.redo(), i);
            }
            Due.is("39: STATE: no more of " + n, x.redo(), -5);
            Due.is("39: as it was at last", x.of(0, 1), 10 + n % 2);
            Due.is("49: all may be UNDONE again", x.count(3), kept);
        }
    }

    /** The first of 41 changes is kept no more, whatever it was; that one stays. */
    private static void fortyOneOfEach() {
        int[][] firsts = {{109, 0, 5}, {109, 1, 30}, {0, 2, 9}};
        for (int[] first : firsts) {
            TenInDrawers x = Due.cabinet(2);
            x.mend(first[0], first[1], first[2]);
            for (int i = 0; i < 40; i++) {
                x.mend(i % 10, 1, 20 + i / 10);
            }
            Due.is("38: 40 at most", x.count(3), 40);
            for (int i = 39; i >= 0; i--) {
                Due.is("38: UNDONE", x.undo(), i);
            }
            Due.is("38: the first is not", x.undo(), -5);
            Due.is("38: it stays", x.of(first[0], first[1]), first[2]);
        }
    }

    private static void undoneInDrawers() {
        TenInDrawers x = Due.cabinet(1);
        x.mend(0, 0, 3);
        x.mend(0, 0, 5);
        x.mend(0, 2, 0);
        Due.is("9: of a bandaged one", x.drawer(0, 2), 2);
        Due.is("18: NEAR 0", x.whose(111, 0), 0);
        x.undo();
        Due.is("18: NEAR 1 again", x.whose(111, 0), 1023);
        x.undo();
        Due.is("9: of a WHORL again", x.drawer(0, 0), 512);
        Due.is("9: of one DRAWER again", x.drawer(0, 2), 1);
        x.undo();
        Due.is("9: of a LOOP again", x.drawer(0, 1), 0);
        x.redo();
        x.redo();
        Due.is("9: of a bandaged one again", x.drawer(0, 2), 2);
    }
}
