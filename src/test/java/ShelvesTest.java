/** Promises 43 to 49: shelves, rows, what is taken for what, the counts. */
final class ShelvesTest {
    private static final long NONE = Long.MIN_VALUE;

    public static void main(String[] args) {
        keep();
        row();
        putAndElement();
        elementRefused();
        elementLikeRefusal();
        lowestBits();
        shift();
        shiftRefused();
        taken();
        count();
        Due.end("ShelvesTest");
    }

    private static void keep() {
        TenInDrawers x = new TenInDrawers();
        Due.is("43: nothing", x.keep(0, -1), 1);
        Due.is("43: no body yet", x.keep(0, 0), -1);
        x.body(4);
        Due.is("43: a print", x.keep(0, 0), 1);
        Due.is("43: its kind", x.taken(0, 0), 4);
        Due.is("43: no body 1", x.keep(0, 1), -1);
        Due.is("43: body -2", x.keep(0, -2), -1);
        Due.is("43: shelf 6", x.keep(6, 0), -1);
        Due.is("43: shelf -1", x.keep(-1, -1), -1);
        Due.is("43: still there", x.taken(0, 0), 4);
        Due.is("43: away", x.keep(0, -1), 1);
        Due.is("43: nothing there", x.taken(0, 0), -11);
        Due.row(x, 5, 0, 3);
        Due.is("43: a print for a row", x.keep(5, 0), 1);
        Due.is("43: no row then", x.put(5, 0, 1), -12);
        Due.is("43: nothing for it", x.keep(5, -1), 1);
        Due.is("43: nothing then", x.put(5, 0, 1), -11);
    }

    private static void row() {
        TenInDrawers x = new TenInDrawers();
        for (int sort = 0; sort < 5; sort++) {
            Due.is("44: 60 of " + sort, x.row(sort, sort, 60), 1);
            Due.is("44: 0 at first", x.element(sort, 59), 0);
            Due.is("44: no 60", x.put(sort, 60, 1), -13);
        }
        Due.is("44: none", x.row(5, 0, 0), 1);
        Due.is("44: none there", x.put(5, 0, 1), -13);
        int[][] bad = {{-1, 0, 1}, {6, 0, 1}, {0, 5, 1}, {0, -1, 1}, {0, 0, 61}, {6, 0, -1}, {0, 5, -1}, {0, 0, Integer.MAX_VALUE}};
        for (int[] b : bad) {
            Due.is("44: row(" + b[0] + ", " + b[1] + ", " + b[2] + ")", x.row(b[0], b[1], b[2]), -1);
        }
        Due.is("44: below 0", x.row(0, 0, -1), -14);
        Due.is("44: far below 0", x.row(0, 4, Integer.MIN_VALUE), -14);
        Due.is("44: still the old one", x.element(0, 59), 0);
        x.put(0, 7, 5);
        Due.is("44: a new one", x.row(0, 3, 8), 1);
        Due.is("44: 0 at first again", x.element(0, 7), 0);
        x.put(0, 0, 4);
        x.row(0, 3, 1);
        Due.is("44: 0 at first again, at 0", x.element(0, 0), 0);
    }

    private static void putAndElement() {
        TenInDrawers x = new TenInDrawers();
        x.body(0);
        x.keep(1, 0);
        x.row(2, 3, 5);
        Due.is("45: first", x.put(2, 0, 77), 1);
        Due.is("45: last", x.put(2, 4, -11), 1);
        Due.is("46: first", x.element(2, 0), 77);
        Due.is("46: last", x.element(2, 4), -11);
        Due.is("46: between", x.element(2, 3), 0);
        int[][] none = {{-1, 0, -1}, {6, 0, -1}, {0, 0, -11}, {0, -1, -11}, {1, 0, -12}, {1, 99, -12}, {2, 5, -13}, {2, -1, -13},
            {2, Integer.MAX_VALUE, -13}, {2, Integer.MIN_VALUE, -13}};
        for (int[] b : none) {
            Due.is("45: put(" + b[0] + ", " + b[1] + ", 1)", x.put(b[0], b[1], 1), b[2]);
        }
        Due.is("45: still", x.element(2, 0), 77);
    }

    private static void elementRefused() {
        TenInDrawers x = new TenInDrawers();
        x.body(0);
        x.keep(1, 0);
        x.row(2, 3, 4);
        x.row(3, 0, 0);
        int[][] none = {{-1, 0}, {6, 0}, {Integer.MIN_VALUE, 0}, {Integer.MAX_VALUE, -1}, {0, 0}, {0, -1}, {0, 60}, {5, 59}, {1, 0},
            {1, -1}, {1, 99}, {2, 4}, {2, -1}, {2, 60}, {2, Integer.MAX_VALUE}, {2, Integer.MIN_VALUE}, {3, 0}, {3, -1}};
        for (int[] b : none) {
            Due.is("46: element(" + b[0] + ", " + b[1] + ")", x.element(b[0], b[1]), NONE);
        }
    }

    /** What looks like a refusal is an element like all others, where there is one. */
    private static void elementLikeRefusal() {
        long[] vs = {-1, -2, -3, -5, -11, -12, -13, -14, NONE};
        for (int sort = 0; sort < 4; sort++) {
            TenInDrawers x = new TenInDrawers();
            Due.row(x, sort, sort, vs);
            for (int i = 0; i < 8; i++) {
                Due.is("46: an element of " + sort, x.element(sort, i), vs[i]);
            }
            Due.is("46: the least of " + sort, x.element(sort, 8), sort == 3 ? NONE : 0);
        }
    }

    private static void lowestBits() {
        long[] vs = {0, 1, -1, 127, 128, 255, 256, -129, 32767, 32768, 65536, 2147483647L, 2147483648L, 4294967296L,
            0x123456789abcdef0L, Long.MAX_VALUE, Long.MIN_VALUE};
        for (long v : vs) {
            TenInDrawers x = new TenInDrawers();
            for (int sort = 0; sort < 5; sort++) {
                x.row(sort, sort, 2);
                Due.is("45: put " + v, x.put(sort, 1, v), 1);
            }
            Due.is("46: byte of " + v, x.element(0, 1), (byte) v);
            Due.is("46: short of " + v, x.element(1, 1), (short) v);
            Due.is("46: int of " + v, x.element(2, 1), (int) v);
            Due.is("46: long of " + v, x.element(3, 1), v);
            Due.is("46: boolean of " + v, x.element(4, 1), v == 0 ? 0 : 1);
        }
    }

    private static void shift() {
        for (int n = 0; n <= 5; n++) {
            for (int i = 0; i <= 5; i++) {
                for (int j = 0; j <= 5; j++) {
                    TenInDrawers x = new TenInDrawers();
                    Due.row(x, 0, 2, 10, 11, 12, 13, 14);
                    boolean there = i + n <= 5 && j + n <= 5;
                    Due.is("47: shift(0, " + i + ", 0, " + j + ", " + n + ")", x.shift(0, i, 0, j, n), there ? n : -13);
                    for (int k = 0; k < 5; k++) {
                        boolean came = there && k >= j && k < j + n;
                        Due.is("47: element " + k, x.element(0, k), came ? 10 + i + k - j : 10 + k);
                    }
                }
            }
        }
        TenInDrawers x = new TenInDrawers();
        Due.row(x, 1, 4, 1, 0, 1);
        x.row(2, 4, 5);
        Due.is("47: to another", x.shift(1, 0, 2, 2, 3), 3);
        int[] due = {0, 0, 1, 0, 1};
        for (int k = 0; k < 5; k++) {
            Due.is("47: of another " + k, x.element(2, k), due[k]);
        }
        Due.is("47: of the one", x.element(1, 2), 1);
    }

    private static void shiftRefused() {
        TenInDrawers x = new TenInDrawers();
        x.body(0);
        x.keep(1, 0);
        x.row(2, 0, 5);
        x.row(3, 1, 5);
        x.row(4, 0, 3);
        int[][] none = {{-1, 0, 2, 0, 1, -1}, {2, 0, 6, 0, 1, -1}, {0, 0, 6, 0, 1, -1}, {0, 0, 2, 0, 1, -11}, {2, 0, 0, 0, 1, -11},
            {0, 0, 1, 0, 1, -11}, {1, 0, 0, 0, 1, -11}, {1, 0, 2, 0, 1, -12}, {2, 0, 1, 0, 1, -12}, {2, 0, 3, 0, 1, -12},
            {2, 99, 3, 0, 1, -12}, {1, 0, 6, 0, 1, -1}, {2, -1, 4, 0, 1, -13}, {2, 0, 4, -1, 1, -13}, {2, 0, 4, 0, 4, -13},
            {4, 0, 2, 0, 4, -13}, {2, 0, 4, 0, -1, -13}, {2, 6, 4, 0, 0, -13}, {2, 0, 4, 4, 0, -13},
            {2, Integer.MAX_VALUE, 4, 0, 1, -13}, {2, 1, 4, 1, Integer.MAX_VALUE, -13}, {2, 0, 4, 0, Integer.MIN_VALUE, -13}};
        for (int[] b : none) {
            String call = "47: shift(" + b[0] + ", " + b[1] + ", " + b[2] + ", " + b[3] + ", " + b[4] + ")";
            Due.is(call, x.shift(b[0], b[1], b[2], b[3], b[4]), b[5]);
        }
        Due.is("47: none at the end", x.shift(2, 5, 4, 3, 0), 0);
    }

    private static void taken() {
        int[] above = {-1, 0, 0, 2, 1, 3, 0, 4};
        for (int kind = 0; kind < 8; kind++) {
            TenInDrawers x = new TenInDrawers();
            x.body(kind);
            x.keep(3, 0);
            for (int k = 0; k < 8; k++) {
                boolean under = false;
                for (int a = kind; a >= 0; a = above[a]) {
                    under |= a == k;
                }
                Due.is("48: " + kind + " taken for " + k, x.taken(3, k), under ? kind : -12);
            }
            Due.is("48: kind -1", x.taken(3, -1), -1);
            Due.is("48: kind 8", x.taken(3, 8), -1);
        }
        TenInDrawers x = new TenInDrawers();
        Due.is("48: nothing", x.taken(0, 0), -11);
        Due.is("48: shelf 6", x.taken(6, 0), -1);
        Due.is("48: shelf -1", x.taken(-1, 0), -1);
        Due.is("48: nothing, kind 8", x.taken(0, 8), -1);
        x.row(0, 0, 1);
        Due.is("48: a row", x.taken(0, 0), -12);
        for (int kind = 0; kind < 8; kind++) {
            x.body(7 - kind);
        }
        Due.is("48: a row, with bodies", x.taken(0, 0), -12);
        for (int body = 0; body < 8; body++) {
            x.keep(body % 6, body);
            Due.is("48: of many bodies", x.taken(body % 6, 0), 7 - body);
        }
        x.row(2, 0, 1);
        Due.is("48: a row for a print", x.taken(2, 0), -12);
        Due.is("48: another shelf's", x.taken(3, 0), 4);
    }

    private static void count() {
        TenInDrawers x = Due.cabinet(3);
        x.file(1, 3);
        x.file(2, 0);
        Due.feed(x, "1234");
        for (int i = 0; i < 6; i++) {
            x.mend(i, 1, 9);
        }
        for (int i = 0; i < 7; i++) {
            x.body(i);
        }
        x.act(5, 1, 1);
        int[] due = {3, 2, 4, 6, 7, 4};
        for (int w = 0; w < 6; w++) {
            Due.is("49: count(" + w + ")", x.count(w), due[w]);
        }
        Due.is("49: -1", x.count(-1), -1);
        Due.is("49: 6", x.count(6), -1);
    }
}
