import java.util.ArrayList;
import java.util.List;

/**
 * Two cabinets made by the same calls, of which only one hears a further call: whether that call changed anything is read
 * off both. Making, call and reading stay below the 512 calls of one object.
 */
final class Twins {
    /** What can be made: nothing yet; something of everything; as much of everything as there may be. */
    static final int NEW = 0, USED = 1, FULL = 2;
    private static final String[] NAMES = {" (new)", " (used)", " (full)"};

    static TenInDrawers made(int state) {
        TenInDrawers x = new TenInDrawers();
        if (state == USED) {
            use(x);
        } else if (state == FULL) {
            fill(x);
        }
        return x;
    }

    /** The call answers what is due, and all else is as if it had not been. */
    static void unchanged(String name, int state, Call call, long due) {
        TenInDrawers one = made(state);
        Due.is(name + NAMES[state], call.on(one), due);
        List<Long> got = readOff(one);
        List<Long> want = readOff(made(state));
        Due.is(name + NAMES[state] + " has as much to read", got.size(), want.size());
        for (int i = 0; i < want.size() && i < got.size(); i++) {
            Due.is(name + NAMES[state] + " changed what is read at " + i, got.get(i), want.get(i));
        }
    }

    /**
     * Four cards (0 in 512, 2 in 0, 3 in 7), three changes and one that was undone, a law, a tape, an image, three bodies
     * (0 GLASS, 1 PRINT, 2 ARCH), shelf 0 with nothing, 1 with body 0, 2 with 40 bytes, 3 with 6 shorts, 4 with 5 longs, 5
     * with no bytes.
     */
    private static void use(TenInDrawers x) {
        x.row(2, 0, 40);
        for (int i = 0; i < 40; i++) {
            x.put(2, i, i % 2 == 0 ? (i / 2 + i / 20) % 6 : (7 * i) % 31);
        }
        x.cards(2, 0, 2);
        x.card();
        x.card();
        Due.row(x, 3, 1, 0, 512, 1, 3, 2, 0);
        Due.row(x, 4, 3, -1, Long.MAX_VALUE, 0, -13, 44);
        x.row(5, 0, 0);
        x.mend(0, 0, 3);
        x.mend(0, 2, 2);
        x.mend(209, 1, 12);
        x.mend(301, 0, 4);
        x.undo();
        Due.law(x, "k*20-r+f");
        Due.feed(x, "7;1");
        x.file(0, 3);
        x.file(2, 0);
        x.search(110);
        x.image();
        x.take(0);
        x.file(0, 512);
        x.file(3, 7);
        x.search(330);
        x.body(7);
        x.body(0);
        x.body(3);
        x.keep(1, 0);
        x.act(0, 3, 10);
    }

    /** Twelve filed cards, 40 changes, 120 bytes on the tape, 50 bodies, six rows of 60. */
    private static void fill(TenInDrawers x) {
        for (int c = 0; c < 12; c++) {
            x.card();
            x.file(c, 1023 - c);
        }
        for (int i = 0; i < 41; i++) {
            x.mend(100 * (i % 12) + i % 10, 1, 11 + i % 20);
        }
        for (int i = 0; i < 120; i++) {
            x.feed(i % 2 == 0 ? '1' : '+');
        }
        for (int i = 0; i < 50; i++) {
            x.body(i % 8);
        }
        for (int s = 0; s < 6; s++) {
            x.row(s, s % 5, 60);
            x.put(s, 59, 1);
        }
        x.search(110);
        x.image();
        x.act(47, 3, -1);
    }

    /** All that the calls tell of a cabinet; that it is changed by reading does not matter any more. */
    private static List<Long> readOff(TenInDrawers x) {
        List<Long> told = new ArrayList<>();
        for (int w = 0; w <= 5; w++) {
            told.add((long) x.count(w));
            told.add((long) x.led(w));
        }
        for (int s = 0; s < 6; s++) {
            told.add((long) x.taken(s, 0));
            for (int i : new int[] {0, 1, 2, 4, 5, 39, 40, 59}) {
                told.add(x.element(s, i));
            }
        }
        for (int i = 0; i < 15; i++) {
            told.add((long) x.trace(i));
        }
        readPrints(x, told);
        readFiled(x, told);
        told.add((long) x.alike(1, 3));
        told.add((long) x.law());
        told.add((long) x.alike(1, 3));
        readChanges(x, told);
        told.add((long) x.back());
        readFiled(x, told);
        told.add((long) x.led(0));
        told.add((long) x.led(3));
        return told;
    }

    private static void readPrints(TenInDrawers x, List<Long> told) {
        int held = x.count(0);
        told.add((long) x.of(0, 2));
        for (int c = 0; c < held; c++) {
            for (int f = c % 2; f < 10; f += held > 4 ? 5 : 1) {
                told.add((long) x.of(100 * c + f, 0));
                told.add((long) x.of(100 * c + f, 1));
            }
        }
    }

    private static void readFiled(TenInDrawers x, List<Long> told) {
        int held = x.count(0);
        for (int c = 0; c < held; c++) {
            told.add((long) x.of(c, 10));
        }
    }

    private static void readChanges(TenInDrawers x, List<Long> told) {
        int left = x.redo();
        told.add((long) left);
        if (left >= 0) {
            told.add((long) x.of(301, 0));
            told.add((long) x.undo());
        }
        for (int i = 0; i <= 40 && left > -100; i++) {
            left = x.undo();
            told.add((long) left);
            told.add((long) x.of(i % 2 == 0 ? 0 : 209, 0));
            left = left < 0 ? -100 : left;
        }
        told.add((long) x.of(0, 2));
        told.add((long) x.of(209, 1));
    }
}
