/** The public face (constants, 512 calls on one object), promise 1, and that all memory is the object's own. */
final class FaceTest {
    private static final int VOID = -2000000000;

    public static void main(String[] args) {
        constants();
        newObject();
        ownMemory();
        lastCall();
        manyChanges();
        manyLaws();
        manyDeeds();
        manyRows();
        Due.end("FaceTest");
    }

    private static void constants() {
        Due.is("face: BAD", TenInDrawers.BAD, -1);
        Due.is("face: NOT", TenInDrawers.NOT, -2);
        Due.is("face: FULL", TenInDrawers.FULL, -3);
        Due.is("face: STATE", TenInDrawers.STATE, -5);
        Due.is("face: VOID", TenInDrawers.VOID, VOID);
    }

    private static void newObject() {
        TenInDrawers x = new TenInDrawers();
        for (int w = 0; w <= 5; w++) {
            Due.is("1: count(" + w + ") of an empty cabinet", x.count(w), 0);
        }
        for (int w = 0; w <= 4; w++) {
            Due.is("1: led(" + w + ") of an empty cabinet", x.led(w), 0);
        }
        for (int s = 0; s <= 5; s++) {
            Due.is("1: shelf " + s + " holds nothing at first", x.taken(s, 0), -11);
            Due.is("1: shelf " + s + " has no row at first", x.who(s), -11);
        }
        Due.is("1: NEAR at first", x.of(0, 2), 1);
        Due.is("1: no card 0", x.of(0, 10), -1);
        Due.is("1: nothing on THE TAPE", x.law(), -100);
        Due.is("1: no change", x.undo(), -5);
        Due.is("1: no change was undone", x.redo(), -5);
        Due.is("1: no image", x.back(), -5);
        Due.is("1: no trace", x.trace(0), -1);
        Due.is("1: no body 0", x.keep(0, 0), -1);
        Due.is("1: no body acts", x.act(0, 0, 5), 0);
        Due.is("1: the first card is plain", x.card(), 0);
        Due.is("1: without a text 10 k less r", x.alike(0, 0), 10);
    }

    /** What one object is told the other never hears, whichever came first. */
    private static void ownMemory() {
        TenInDrawers before = new TenInDrawers();
        Twins.made(Twins.FULL);
        TenInDrawers used = Twins.made(Twins.USED);
        TenInDrawers after = new TenInDrawers();
        for (TenInDrawers x : new TenInDrawers[] {before, after}) {
            for (int w = 0; w <= 5; w++) {
                Due.is("all memory is the class's own: count(" + w + ")", x.count(w), 0);
            }
            Due.is("all memory is the class's own: NEAR", x.of(0, 2), 1);
            Due.is("all memory is the class's own: searches", x.led(2), 0);
            Due.is("all memory is the class's own: shelf 2", x.taken(2, 0), -11);
            Due.is("all memory is the class's own: no image", x.back(), -5);
            Due.is("all memory is the class's own: a card", x.card(), 0);
            Due.is("all memory is the class's own: its sort", x.of(0, 0), 1);
            Due.is("all memory is the class's own: no law", x.alike(0, 5), 10);
        }
        Due.is("all memory is the class's own: of the used one", used.of(0, 0), 3);
    }

    private static void lastCall() {
        TenInDrawers x = new TenInDrawers();
        x.card();
        for (int i = 2; i <= 510; i++) {
            Due.is("face: call " + i, x.of(9, i % 2), i % 2 == 0 ? 1 : 10);
        }
        Due.is("face: call 511 tells", x.mend(9, 0, 3), 1);
        Due.is("face: call 512 reads it back", x.drawer(0, 0), 1);
    }

    private static void manyChanges() {
        TenInDrawers x = new TenInDrawers();
        x.card();
        for (int i = 2; i <= 470; i++) {
            Due.is("face: change as call " + i, x.mend(0, 1, i % 31), i == 2 ? 10 : (i - 1) % 31);
        }
        Due.is("face: 40 of 469 changes are kept", x.count(3), 40);
        for (int i = 39; i >= 0; i--) {
            Due.is("face: so many are left", x.undo(), i);
        }
        Due.is("face: call 512, as it was 40 changes ago", x.of(0, 1), 430 % 31);
    }

    private static void manyLaws() {
        TenInDrawers x = Due.cabinet(2);
        for (int i = 0; i < 170; i++) {
            Due.is("face: a byte", x.feed('0' + i % 10), 1);
            Due.is("face: a law", x.law(), 1);
            Due.is("face: by law " + i, x.alike(1, 0), i % 10);
        }
    }

    private static void manyDeeds() {
        TenInDrawers x = Due.cabinet(12);
        for (int c = 0; c < 12; c++) {
            x.file(c, 1000);
        }
        for (int i = 1; i <= 240; i++) {
            Due.is("face: a search in vain", x.search(300), -2);
        }
        for (int i = 1; i <= 121; i++) {
            Due.is("face: taken", x.take(11), 1000);
            Due.is("face: filed again", x.file(11, 1000), VOID);
        }
        int[] due = {12 + 121, 121, 240, 12 * 240};
        for (int w = 0; w < 4; w++) {
            Due.is("face: led(" + w + ") of many deeds", x.led(w), due[w]);
        }
        Due.is("face: call 511, the image", x.image(), 240);
        Due.is("face: call 512, the image laid back", x.back(), 240);
    }

    private static void manyRows() {
        TenInDrawers x = new TenInDrawers();
        for (int i = 0; i < 128; i++) {
            Due.is("face: a row", x.row(i % 6, i % 5, 60), 1);
            Due.is("face: an element", x.put(i % 6, 59, 1), 1);
            Due.is("face: it moves", x.shift(i % 6, 59, i % 6, 0, 1), 1);
            Due.is("face: it came", x.element(i % 6, 0), 1);
        }
    }
}
