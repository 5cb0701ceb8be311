import java.util.LinkedHashMap;
import java.util.Map;
import java.util.Set;
import java.util.TreeSet;

/**
 * Two cabinets made by the same calls, of which only one hears a further call: whether that call changed anything is read
 * off both. Making, call and reading stay below the 512 calls of one object.
 */
final class Twins {
    /** What can be made: nothing yet; something of everything; as much of everything as there may be. */
    static final int NEW = 0, USED = 1, FULL = 2;
    private static final long GONE = -987654321;
    private static final String[] NAMES = {" (new)", " (used)", " (full)"};

    static TenInDrawers made(int state) {
        TenInDrawers x = new TenInDrawers();
        if (state == USED) {
            use(x);
        } else if (state == FULL) {
            fill(x);
        }
        return x;
    }

    /** The call answers what is due, and all else is as if it had not been. */
    static void unchanged(String name, int state, Call call, long due) {
        changesOnly(name, state, call, due, "nothing");
    }

    /** The call answers what is due, and only what has a name like this (a pattern) is not as if it had not been. */
    static void changesOnly(String name, int state, Call call, long due, String pattern) {
        TenInDrawers one = made(state);
        Due.is(name + NAMES[state], call.on(one), due);
        Map<String, Long> got = readOff(one);
        Map<String, Long> want = readOff(made(state));
        Set<String> keys = new TreeSet<>(got.keySet());
        keys.addAll(want.keySet());
        for (String key : keys) {
            if (!key.matches(pattern)) {
                Due.is(name + NAMES[state] + " changed " + key, got.getOrDefault(key, GONE), want.getOrDefault(key, GONE));
            }
        }
    }

    /**
     * Four cards (0 in 512, 2 in 0, 3 in 7), three changes and one that was undone, a law, a tape, an image, three bodies
     * (0 GLASS, 1 PRINT, 2 ARCH), shelf 0 with nothing, 1 with body 0, 2 with 40 bytes, 3 with 6 shorts, 4 with 5 longs, 5
     * with no bytes.
     */
    private static void use(TenInDrawers x) {
        x.row(2, 0, 40);
        for (int i = 0; i < 40; i++) {
            x.put(2, i, i % 2 == 0 ? (i / 2 + i / 20) % 6 : (7 * i) % 31);
        }
        x.cards(2, 0, 2);
        x.card();
        x.card();
        Due.row(x, 3, 1, 0, 512, 1, 3, 2, 0);
        Due.row(x, 4, 3, -1, Long.MAX_VALUE, 0, -13, 44);
        x.row(5, 0, 0);
        x.mend(0, 0, 3);
        x.mend(0, 2, 2);
        x.mend(209, 1, 12);
        x.mend(301, 0, 4);
        x.undo();
        Due.law(x, "k*20-r+f");
        Due.feed(x, "7;1");
        x.file(0, 3);
        x.file(2, 0);
        x.search(110);
        x.image();
        x.take(0);
        x.file(0, 512);
        x.file(3, 7);
        x.search(330);
        x.body(7);
        x.body(0);
        x.body(3);
        x.keep(1, 0);
        x.act(0, 3, 10);
    }

    /** Twelve filed cards, 40 changes, 120 bytes on the tape, 50 bodies, six rows of 60. */
    private static void fill(TenInDrawers x) {
        for (int c = 0; c < 12; c++) {
            x.card();
            x.file(c, 1023 - c);
        }
        for (int i = 0; i < 41; i++) {
            x.mend(100 * (i % 12) + i % 10, 1, 11 + i % 20);
        }
        for (int i = 0; i < 120; i++) {
            x.feed(i % 2 == 0 ? '1' : '+');
        }
        for (int i = 0; i < 50; i++) {
            x.body(i % 8);
        }
        for (int s = 0; s < 6; s++) {
            x.row(s, s % 5, 60);
            x.put(s, 59, 1);
        }
        x.search(110);
        x.image();
        x.act(47, 3, -1);
    }

    /** All that the calls tell of a cabinet, by names; that it is changed by reading does not matter any more. */
    private static Map<String, Long> readOff(TenInDrawers x) {
        Map<String, Long> told = new LinkedHashMap<>();
        for (int w = 0; w <= 5; w++) {
            told.put("count " + w, (long) x.count(w));
            told.put("led " + w, (long) x.led(w));
        }
        for (int s = 0; s < 6; s++) {
            told.put("shelf " + s, (long) x.taken(s, 0));
            for (int i : new int[] {0, 1, 2, 4, 5, 39, 40, 59}) {
                told.put("shelf " + s + " at " + i, x.element(s, i));
            }
        }
        for (int i = 0; i < 15; i++) {
            told.put("trace " + i, (long) x.trace(i));
        }
        readPrints(x, told);
        readFiled(x, told, "filed ");
        told.put("law", (long) x.alike(1, 3));
        told.put("tape", (long) x.law());
        told.put("law of the tape", (long) x.alike(1, 3));
        readChanges(x, told);
        told.put("image", (long) x.back());
        readFiled(x, told, "image, filed ");
        told.put("image, led 0", (long) x.led(0));
        told.put("image, led 3", (long) x.led(3));
        return told;
    }

    private static void readPrints(TenInDrawers x, Map<String, Long> told) {
        int held = x.count(0);
        told.put("near", (long) x.of(0, 2));
        for (int c = 0; c < held; c++) {
            for (int f = c % 2; f < 10; f += held > 6 ? 5 : 1) {
                told.put("sort " + (100 * c + f), (long) x.of(100 * c + f, 0));
                told.put("ridges " + (100 * c + f), (long) x.of(100 * c + f, 1));
            }
        }
    }

    private static void readFiled(TenInDrawers x, Map<String, Long> told, String name) {
        int held = x.count(0);
        for (int c = 0; c < held; c++) {
            told.put(name + c, (long) x.of(c, 10));
        }
    }

    private static void readChanges(TenInDrawers x, Map<String, Long> told) {
        int left = x.redo();
        told.put("changes to be done again", (long) left);
        if (left >= 0) {
            told.put("changes, what the next does", (long) x.of(301, 0));
            x.undo();
        }
        left = 0;
        for (int i = 0; i <= 40 && left >= 0; i++) {
            left = x.undo();
            told.put("changes, left behind " + i, (long) left);
            told.put("changes, what is behind " + i, (long) x.of(i % 2 == 0 ? 0 : 209, 0));
        }
        told.put("changes, NEAR ahead of all", (long) x.of(0, 2));
        told.put("changes, RIDGES ahead of all", (long) x.of(209, 1));
    }
}
