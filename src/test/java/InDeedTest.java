/** Promises 32 to 39: filing, searching, what is led, the image, changes undone and done again. */
final class InDeedTest {
    private static final int VOID = -2000000000;

    public static void main(String[] args) {
        fileAndTake();
        search();
        imageAndBack();
        undoAndRedo();
        fortyChanges();
        fortyUnlikeChanges();
        Due.end("InDeedTest");
    }

    private static void fileAndTake() {
        TenInDrawers x = Due.cabinet(2);
        Due.is("32: nowhere before", x.file(0, 7), VOID);
        Due.is("32: where it was", x.file(0, 1023), 7);
        Due.is("32: the same again", x.file(0, 1023), 1023);
        Due.is("32: drawer 0", x.file(1, 0), VOID);
        Due.is("35: filed", x.led(0), 4);
        Due.is("49: filed", x.count(1), 2);
        Due.is("32: no card", x.file(2, 0), -1);
        Due.is("32: card -1", x.file(-1, 0), -1);
        Due.is("32: drawer 1024", x.file(0, 1024), -1);
        Due.is("32: drawer -1", x.file(0, -1), -1);
        Due.is("35: filed, still", x.led(0), 4);
        Due.is("5: filed in", x.of(0, 10), 1023);
        Due.is("33: where it was", x.take(0), 1023);
        Due.is("33: nowhere", x.take(0), -5);
        Due.is("33: drawer 0", x.take(1), 0);
        Due.is("33: no card", x.take(2), -1);
        Due.is("33: card -1", x.take(-1), -1);
        Due.is("35: taken", x.led(1), 2);
        Due.is("5: not filed", x.of(0, 10), VOID);
        Due.is("49: filed", x.count(1), 0);
        Due.is("39: deeds are no changes", x.count(3), 0);
    }

    private static void search() {
        TenInDrawers x = Due.cabinet(4);
        Due.sorts(x, 2, "1111111113");
        Due.is("34: none filed", x.search(110), -2);
        Due.is("35: searches", x.led(2), 1);
        Due.is("35: looked at", x.led(3), 0);
        x.file(0, 5);
        x.file(1, 5);
        x.file(2, 0);
        Due.is("34: by drawers upward", x.search(110), 2);
        Due.is("35: looked at", x.led(3), 1);
        x.mend(9, 0, 3);
        x.mend(109, 0, 3);
        x.mend(209, 0, 1);
        Due.is("34: in a drawer by numbers", x.search(310), 0);
        Due.is("35: looked at", x.led(3), 3);
        x.mend(9, 0, 1);
        Due.is("34: the third", x.search(310), 1);
        Due.is("35: looked at", x.led(3), 6);
        Due.is("35: found", x.led(4), 3);
        x.mend(300, 0, 2);
        Due.is("34: not filed, not found", x.search(210), -2);
        Due.is("35: all filed looked at", x.led(3), 9);
        Due.is("35: found, still", x.led(4), 3);
        Due.is("35: searches", x.led(2), 5);
        x.file(3, 1023);
        Due.is("34: in the last drawer", x.search(210), 3);
        Due.is("35: four looked at", x.led(3), 13);
        Due.is("34: bad", x.search(500), -1);
        Due.is("35: searches, still", x.led(2), 6);
        Due.is("35: -1", x.led(-1), -1);
        Due.is("35: 5", x.led(5), -1);
    }

    private static void imageAndBack() {
        TenInDrawers x = Due.cabinet(3);
        Due.is("37: none", x.back(), -5);
        x.file(0, 3);
        x.file(1, 4);
        x.search(110);
        x.search(310);
        Due.is("36: searches", x.image(), 2);
        x.take(0);
        x.file(2, 9);
        x.search(110);
        x.card();
        x.file(3, 8);
        x.mend(0, 0, 3);
        x.mend(0, 2, 5);
        Due.is("37: searches", x.back(), 2);
        Due.is("37: 0 filed", x.of(0, 10), 3);
        Due.is("37: 1 filed", x.of(1, 10), 4);
        Due.is("37: 2 not", x.of(2, 10), VOID);
        Due.is("37: 3 came since", x.of(3, 10), VOID);
        int[] led = {2, 0, 2, 3, 1};
        for (int w = 0; w < 5; w++) {
            Due.is("37: led(" + w + ")", x.led(w), led[w]);
        }
        Due.is("37: cards stay", x.count(0), 4);
        Due.is("37: sorts stay", x.of(0, 0), 3);
        Due.is("37: near stays", x.of(0, 2), 5);
        Due.is("37: changes stay", x.count(3), 2);
        x.take(1);
        x.search(110);
        Due.is("37: again", x.back(), 2);
        Due.is("37: 1 filed again", x.of(1, 10), 4);
        x.file(3, 8);
        x.search(110);
        Due.is("36: a new one", x.image(), 3);
        x.take(3);
        Due.is("37: the new one", x.back(), 3);
        Due.is("37: 3 filed", x.of(3, 10), 8);
    }

    private static void undoAndRedo() {
        TenInDrawers x = Due.cabinet(2);
        x.mend(103, 0, 5);
        x.mend(103, 0, 5);
        x.mend(4, 1, 20);
        x.mend(0, 2, 3);
        x.mend(103, 0, 0);
        Due.is("49: changes", x.count(3), 4);
        Due.is("39: none", x.redo(), -5);
        Due.is("38: sort", x.undo(), 3);
        Due.is("38: sort is", x.of(103, 0), 5);
        Due.is("38: near", x.undo(), 2);
        Due.is("38: near is", x.of(0, 2), 1);
        Due.is("38: ridges", x.undo(), 1);
        Due.is("38: ridges are", x.of(4, 1), 10);
        Due.is("38: the first", x.undo(), 0);
        Due.is("38: sort is", x.of(103, 0), 1);
        Due.is("38: no more", x.undo(), -5);
        Due.is("39: the first", x.redo(), 3);
        Due.is("39: sort is", x.of(103, 0), 5);
        Due.is("39: ridges", x.redo(), 2);
        Due.is("39: ridges are", x.of(4, 1), 20);
        Due.is("49: may be undone", x.count(3), 2);
        x.mend(103, 0, 5);
        x.mend(0, 2, 10);
        x.file(0, 1);
        x.take(0);
        x.search(110);
        x.card();
        Due.is("39: none of these is a change", x.redo(), 1);
        Due.is("39: near is", x.of(0, 2), 3);
        x.mend(9, 0, 3);
        Due.is("39: another came behind", x.redo(), -5);
        Due.is("38: the other one", x.undo(), 3);
        Due.is("38: sort is", x.of(9, 0), 1);
        Due.is("9: its drawer", x.drawer(0, 0), 0);
        Due.is("39: the other one", x.redo(), 0);
        Due.is("9: its drawer again", x.drawer(0, 0), 1);
        Due.is("39: no more", x.redo(), -5);
    }

    private static void fortyChanges() {
        TenInDrawers x = Due.cabinet(1);
        for (int i = 0; i < 45; i++) {
            x.mend(0, 1, 11 + i % 2);
            Due.is("38: kept", x.count(3), Math.min(40, i + 1));
        }
        x.mend(3, 0, 0);
        Due.is("38: forty", x.count(3), 40);
        for (int i = 39; i >= 0; i--) {
            Due.is("38: undone", x.undo(), i);
        }
        Due.is("38: no more", x.undo(), -5);
        Due.is("38: the oldest are forgotten", x.of(0, 1), 12);
        for (int i = 39; i >= 10; i--) {
            Due.is("39: done again", x.redo(), i);
        }
        x.mend(5, 1, 3);
        Due.is("49: 31 changes", x.count(3), 31);
        Due.is("39: none behind", x.redo(), -5);
    }

    /** 55 changes of unlike places; the 40 latest are taken back and done again one by one. */
    private static void fortyUnlikeChanges() {
        TenInDrawers x = Due.cabinet(4);
        int[] number = new int[55];
        int[] what = new int[55];
        int[] was = new int[55];
        int[] is = new int[55];
        for (int i = 0; i < 55; i++) {
            what[i] = i % 7 == 0 ? 2 : i % 2;
            number[i] = what[i] == 2 ? 0 : 100 * (i % 4) + i * 3 % 10;
            was[i] = x.of(number[i], what[i]);
            is[i] = what[i] == 0 ? (was[i] + 1 + i % 5) % 6 : what[i] == 1 ? (was[i] + 1 + i) % 31 : (was[i] + 4) % 10;
            Due.is("4: was", x.mend(number[i], what[i], is[i]), was[i]);
        }
        for (int i = 54; i >= 15; i--) {
            Due.is("38: undone", x.undo(), i - 15);
            Due.is("38: as it was", x.of(number[i], what[i]), was[i]);
        }
        Due.is("38: no more", x.undo(), -5);
        for (int i = 15; i < 55; i++) {
            Due.is("39: done again", x.redo(), 54 - i);
            Due.is("39: as it is", x.of(number[i], what[i]), is[i]);
        }
    }
}
