/** The edges of promises 40 to 49: 50 bodies, acts that are none, shelves, rows of 0 and 60, lowest bits, stretches, counts. */
final class ShelfEdgesTest {
    private static final int MOST = Integer.MAX_VALUE, LEAST = Integer.MIN_VALUE;
    private static final long NONE = Long.MIN_VALUE;

    public static void main(String[] args) {
        bodies();
        actsOfNone();
        actsThatWrap();
        bodiesThatRan();
        trace();
        keep();
        rowSizes();
        rowRefused();
        places();
        lowestBits();
        shiftStretches();
        shiftOnItself();
        shiftSorts();
        shiftRefused();
        taken();
        counts();
        Due.end("ShelfEdgesTest");
    }

    private static void bodies() {
        TenInDrawers x = new TenInDrawers();
        int[][] due = {{LEAST, -1}, {-1, -1}, {8, -1}, {MOST, -1}};
        for (int[] d : due) {
            Due.is("40: kind " + d[0], x.body(d[0]), d[1]);
        }
        for (int i = 0; i <= 49; i++) {
            Due.is("40: its number", x.body(i < 8 ? i : 7 - i % 8), i);
        }
        Due.is("40: FULL: 50", x.body(0), -3);
        Due.is("40: FULL: 50", x.body(7), -3);
        for (int[] d : due) {
            Due.is("40: BAD ahead of FULL, kind " + d[0], x.body(d[0]), d[1]);
        }
        Due.is("40: FULL changes nothing", x.count(4), 50);
        for (int i : new int[] {0, 7, 8, 48, 49}) {
            x.keep(0, i);
            Due.is("40: the KIND of " + i, x.taken(0, 0), i < 8 ? i : 7 - i % 8);
        }
    }

    private static void actsOfNone() {
        for (int bodies : new int[] {0, 1, 50}) {
            TenInDrawers x = new TenInDrawers();
            for (int i = 0; i < bodies; i++) {
                x.body(0);
            }
            for (int b : new int[] {LEAST, -1, 0, 1, 49, 50, MOST}) {
                for (int a : new int[] {LEAST, -1, 0, 3, 4, MOST}) {
                    boolean there = b >= 0 && b < bodies && (a == 0 || a == 3);
                    // A PRINT n: inks 7 + n; tells (7 + n) * 2 - (1 ^ n).
                    int due = !there ? 0 : a == 0 ? 7 + b : (7 + b) * 2 - (1 ^ b);
                    String call = "act(" + b + ", " + a + ", 7) of " + bodies;
                    Due.is("41: " + call, x.act(b, a, 7), due);
                    Due.is("49: ran, " + call, x.count(5), !there ? 0 : a == 0 ? 1 : 4);
                    Due.is("42: first of the trace, " + call, x.trace(0), !there ? -1 : a == 0 ? 1 : 2);
                }
            }
        }
    }

    /** The act of a PRINT, a WHORL and an ARCH with an x that wraps. */
    private static void actsThatWrap() {
        TenInDrawers x = new TenInDrawers();
        x.body(2);
        x.body(0);
        x.body(3);
        x.body(6);
        Due.is("41: inks wraps", x.act(1, 0, MOST), LEAST);
        Due.is("41: inks up to the greatest", x.act(1, 0, MOST - 1), MOST);
        Due.is("41: counts wraps", x.act(1, 1, 0x40000000 - 1), LEAST);
        Due.is("41: - of the least wraps", x.act(0, 1, 0x40000000), LEAST);
        Due.is("41: x + 1 wraps", x.act(2, 1, MOST), -((LEAST + 2) * 2));
        Due.is("41: * 3 wraps", x.act(2, 2, 0x60000000), (0x60000000 ^ 2) * 3);
        Due.is("41: * 2 wraps", x.act(3, 0, LEAST), 6);
        Due.is("41: files of the least", x.act(1, 2, LEAST), LEAST ^ 1);
        Due.is("41: tells wraps", x.act(1, 3, LEAST), 2);
        Due.is("41: n is the body's number", x.act(3, 2, 0), 3);
    }

    /** By KIND, then by ACT: which bodies run, as they begin. */
    private static void bodiesThatRan() {
        int[][][] due = {
            {{1}, {10, 1}, {11}, {2, 10, 1, 11}},
            {{20, 1}, {10, 20, 1}, {11}, {2, 10, 20, 1, 11}},
            {{1}, {30, 10, 1}, {11}, {2, 30, 10, 1, 11}},
            {{1}, {41, 30, 10, 1}, {40, 11}, {2, 41, 30, 10, 1, 40, 11}},
            {{20, 1}, {10, 20, 1}, {50, 11, 20, 1}, {2, 10, 20, 1, 50, 11, 20, 1}},
            {{1}, {41, 30, 10, 1}, {40, 11}, {60, 2, 41, 30, 10, 1, 40, 11}},
            {{70, 1}, {10, 70, 1}, {11}, {2, 10, 70, 1, 11}},
            {{20, 1}, {80, 10, 20, 1, 50, 11, 20, 1}, {50, 11, 20, 1}, {81, 2, 80, 10, 20, 1, 50, 11, 20, 1, 50, 11, 20, 1}}};
        for (int kind = 0; kind <= 7; kind++) {
            for (int act = 0; act <= 3; act++) {
                TenInDrawers x = new TenInDrawers();
                x.body(kind);
                x.act(0, act, 5);
                int[] ran = due[kind][act];
                String of = " of KIND " + kind + ", ACT " + act;
                Due.is("49: bodies that ran" + of, x.count(5), ran.length);
                for (int i = 0; i < ran.length; i++) {
                    Due.is("42: trace(" + i + ")" + of, x.trace(i), ran[i]);
                }
                Due.is("42: BAD behind the last" + of, x.trace(ran.length), -1);
            }
        }
    }

    private static void trace() {
        TenInDrawers x = new TenInDrawers();
        for (int i : new int[] {LEAST, -1, 0, 23, 24, MOST}) {
            Due.is("42: no act yet, trace(" + i + ")", x.trace(i), -1);
        }
        x.body(7);
        x.body(0);
        x.act(0, 3, 1);
        Due.is("42: the last of 14", x.trace(13), 1);
        for (int i : new int[] {LEAST, -1, 14, 23, 24, MOST}) {
            Due.is("42: trace(" + i + ")", x.trace(i), -1);
        }
        x.act(1, 2, 1);
        Due.is("42: of the latest act", x.trace(0), 11);
        Due.is("42: of the latest act alone", x.trace(1), -1);
        Due.is("49: of the latest act alone", x.count(5), 1);
    }

    private static void keep() {
        for (int bodies : new int[] {0, 1, 50}) {
            TenInDrawers x = new TenInDrawers();
            for (int i = 0; i < bodies; i++) {
                x.body(6);
            }
            for (int s : new int[] {LEAST, -1, 0, 5, 6, MOST}) {
                for (int b : new int[] {LEAST, -2, -1, 0, 1, 49, 50, MOST}) {
                    boolean shelf = s == 0 || s == 5;
                    boolean there = b >= 0 && b < bodies;
                    String call = "keep(" + s + ", " + b + ") of " + bodies;
                    x.row(s, 0, 1);
                    Due.is("43: " + call, x.keep(s, b), shelf && (there || b == -1) ? 1 : -1);
                    int holds = there ? 6 : b == -1 ? -11 : -12;
                    Due.is("43: what it holds then, " + call, x.taken(s, 0), shelf ? holds : -1);
                }
            }
        }
    }

    private static void rowSizes() {
        for (int sort = 0; sort <= 4; sort++) {
            for (int n : new int[] {0, 1, 59, 60}) {
                TenInDrawers x = new TenInDrawers();
                String of = ", SORT " + sort + " of " + n;
                Due.is("44: a ROW" + of, x.row(5, sort, n), 1);
                for (int i = 0; i < n; i++) {
                    Due.is("44: 0 at first" + of, x.element(5, i), 0);
                    Due.is("45: each place" + of, x.put(5, i, 1), 1);
                }
                Due.is("45: the place behind" + of, x.put(5, n, 1), -13);
                Due.is("46: the place behind" + of, x.element(5, n), NONE);
                Due.is("44: a ROW in its stead" + of, x.row(5, sort, n), 1);
                for (int i = 0; i < n; i++) {
                    Due.is("44: 0 at first again" + of, x.element(5, i), 0);
                }
                x.row(5, sort, 60);
                for (int i = 0; i < 60; i++) {
                    x.put(5, i, 1);
                }
                x.row(5, sort, 0);
                x.row(5, sort, 60);
                Due.is("44: 0 at first behind an empty one" + of, x.element(5, 59), 0);
            }
        }
    }

    private static void rowRefused() {
        TenInDrawers x = new TenInDrawers();
        x.row(0, 2, 3);
        x.put(0, 2, 77);
        for (int s : new int[] {LEAST, -1, 0, 5, 6, MOST}) {
            for (int sort : new int[] {LEAST, -1, 5, MOST, 0, 4}) {
                for (int n : new int[] {LEAST, -1, 61, MOST}) {
                    boolean bad = s < 0 || s > 5 || sort < 0 || sort > 4 || n > 60;
                    Due.is("44: row(" + s + ", " + sort + ", " + n + ")", x.row(s, sort, n), bad ? -1 : -14);
                }
            }
        }
        Due.is("44: a refused one changes nothing", x.element(0, 2), 77);
        Due.is("44: a refused one is not there", x.put(5, 0, 1), -11);
    }

    private static void places() {
        TenInDrawers x = new TenInDrawers();
        x.body(0);
        x.keep(1, 0);
        x.row(2, 3, 60);
        x.row(3, 3, 1);
        x.row(4, 3, 0);
        int[] length = {-11, -12, 60, 1, 0, -11};
        for (int s : new int[] {LEAST, -1, 0, 1, 2, 3, 4, 5, 6, MOST}) {
            for (int i : new int[] {LEAST, -1, 0, 1, 59, 60, MOST}) {
                int has = s >= 0 && s <= 5 ? length[s] : -1;
                boolean there = i >= 0 && i < has;
                int due = has < 0 ? has : there ? 1 : -13;
                Due.is("45: put(" + s + ", " + i + ", 5)", x.put(s, i, 5), due);
                Due.is("46: element(" + s + ", " + i + ")", x.element(s, i), there ? 5 : NONE);
            }
        }
    }

    private static void lowestBits() {
        long[][] due = {{127, 127, 127, 127, 1}, {128, -128, 128, 128, 1}, {255, -1, 255, 255, 1}, {256, 0, 256, 256, 1},
            {-128, -128, -128, -128, 1}, {-129, 127, -129, -129, 1}, {32767, -1, 32767, 32767, 1}, {32768, 0, -32768, 32768, 1},
            {-32769, -1, 32767, -32769, 1}, {65536, 0, 0, 65536, 1}, {2147483647L, -1, -1, 2147483647L, 1},
            {2147483648L, 0, 0, -2147483648L, 1}, {-2147483649L, -1, -1, 2147483647L, 1}, {4294967296L, 0, 0, 0, 1},
            {Long.MAX_VALUE, -1, -1, -1, 1}, {Long.MIN_VALUE, 0, 0, 0, 1}, {0, 0, 0, 0, 0}, {1, 1, 1, 1, 1}, {-1, -1, -1, -1, 1},
            {2, 2, 2, 2, 1}};
        for (long[] d : due) {
            TenInDrawers x = new TenInDrawers();
            long[] kept = {d[1], d[2], d[3], d[0], d[4]};
            for (int sort = 0; sort <= 4; sort++) {
                x.row(sort, sort, 1);
                Due.is("45: " + d[0] + " into SORT " + sort, x.put(sort, 0, d[0]), 1);
                Due.is("46: " + d[0] + " of SORT " + sort, x.element(sort, 0), kept[sort]);
            }
        }
    }

    /** Rows of 60 and of 7: from i on, j on, n: both stretches must be there. */
    private static void shiftStretches() {
        int[][] due = {{0, 0, 7, 7}, {53, 0, 7, 7}, {54, 0, 7, -13}, {0, 1, 7, -13}, {0, 0, 8, -13}, {59, 6, 1, 1}, {60, 6, 1, -13},
            {59, 7, 1, -13}, {60, 7, 0, 0}, {61, 7, 0, -13}, {60, 8, 0, -13}, {0, 0, 0, 0}, {-1, 0, 1, -13}, {0, -1, 1, -13},
            {-1, 0, 0, -13}, {0, -1, 0, -13}, {0, 0, -1, -13}, {1, 1, -1, -13}, {MOST, 0, 1, -13}, {0, MOST, 1, -13}, {1, 0, MOST, -13},
            {0, 1, MOST, -13}, {MOST, MOST, MOST, -13}, {LEAST, 0, 1, -13}, {0, LEAST, 1, -13}, {0, 0, LEAST, -13}, {LEAST, LEAST, LEAST, -13},
            {MOST, 0, LEAST, -13}};
        for (int[] d : due) {
            TenInDrawers x = new TenInDrawers();
            x.row(0, 2, 60);
            x.row(1, 2, 7);
            for (int i = 0; i < 60; i++) {
                x.put(0, i, 100 + i);
            }
            Due.is("47: shift(0, " + d[0] + ", 1, " + d[1] + ", " + d[2] + ")", x.shift(0, d[0], 1, d[1], d[2]), d[3]);
            for (int k = 0; k < 7; k++) {
                boolean came = d[3] > 0 && k >= d[1] && k < d[1] + d[2];
                Due.is("47: element " + k + " then", x.element(1, k), came ? 100 + d[0] + k - d[1] : 0);
            }
            Due.is("47: back, other way round", x.shift(1, d[1], 0, d[0], d[2]), d[3]);
        }
    }

    private static void shiftOnItself() {
        for (int i = 0; i <= 6; i++) {
            for (int j = 0; j <= 6; j++) {
                TenInDrawers x = new TenInDrawers();
                Due.row(x, 3, 3, 10, 11, 12, 13, 14, 15);
                int n = 6 - Math.max(i, j);
                Due.is("47: the same, from " + i + " to " + j, x.shift(3, i, 3, j, n), n);
                for (int k = 0; k < 6; k++) {
                    boolean came = k >= j && k < j + n;
                    Due.is("47: as they all were before", x.element(3, k), came ? 10 + i + k - j : 10 + k);
                }
                Due.is("47: one too many", x.shift(3, i, 3, j, n + 1), -13);
            }
        }
    }

    private static void shiftSorts() {
        for (int one = 0; one <= 4; one++) {
            for (int two = 0; two <= 4; two++) {
                TenInDrawers x = new TenInDrawers();
                x.row(0, one, 2);
                x.row(5, two, 2);
                x.put(0, 0, 1);
                Due.is("47: of SORT " + one + " to SORT " + two, x.shift(0, 0, 5, 1, 1), one == two ? 1 : -12);
                Due.is("47: what came", x.element(5, 1), one == two ? 1 : 0);
                Due.is("47: -12 ahead of -13", x.shift(0, 2, 5, 1, 1), one == two ? -13 : -12);
                Due.is("47: -12 also of none", x.shift(0, 0, 5, 0, 0), one == two ? 0 : -12);
            }
        }
    }

    /** By shelf: 0 nothing, 1 a PRINT, 2 bytes, 3 shorts; of two refusals the one named first. */
    private static void shiftRefused() {
        TenInDrawers x = new TenInDrawers();
        x.body(0);
        x.keep(1, 0);
        x.row(2, 0, 5);
        x.row(3, 1, 5);
        int[] shelves = {LEAST, -1, 0, 1, 2, 3, 6, MOST};
        for (int one : shelves) {
            for (int two : shelves) {
                boolean bad = one < 0 || one > 5 || two < 0 || two > 5;
                boolean same = one == two && one >= 2;
                for (int n : new int[] {1, 6, -1}) {
                    int due = bad ? -1 : one == 0 || two == 0 ? -11 : !same ? -12 : n == 1 ? 1 : -13;
                    Due.is("47: shift(" + one + ", 0, " + two + ", 0, " + n + ")", x.shift(one, 0, two, 0, n), due);
                }
            }
        }
    }

    private static void taken() {
        int[] above = {-1, 0, 0, 2, 1, 3, 0, 4};
        for (int kind = 0; kind <= 7; kind++) {
            TenInDrawers x = new TenInDrawers();
            x.body(kind);
            x.keep(2, 0);
            x.row(3, 0, 1);
            for (int k : new int[] {LEAST, -1, 0, 1, 2, 3, 4, 5, 6, 7, 8, MOST}) {
                boolean under = false;
                for (int a = kind; a >= 0; a = above[a]) {
                    under |= a == k;
                }
                boolean isKind = k >= 0 && k <= 7;
                Due.is("48: KIND " + kind + " taken for " + k, x.taken(2, k), !isKind ? -1 : under ? kind : -12);
                Due.is("48: nothing taken for " + k, x.taken(0, k), isKind ? -11 : -1);
                Due.is("48: a ROW taken for " + k, x.taken(3, k), isKind ? -12 : -1);
                for (int s : new int[] {LEAST, -1, 6, MOST}) {
                    Due.is("48: no shelf " + s + " taken for " + k, x.taken(s, k), -1);
                }
            }
        }
    }

    private static void counts() {
        for (int state : new int[] {Twins.NEW, Twins.USED, Twins.FULL}) {
            TenInDrawers x = Twins.made(state);
            int[][] due = {{0, 0, 0, 0, 0, 0}, {4, 3, 3, 3, 3, 14}, {12, 12, 120, 40, 50, 14}};
            for (int w = 0; w <= 5; w++) {
                Due.is("49: count(" + w + ") of " + state, x.count(w), due[state][w]);
            }
            for (int w : new int[] {LEAST, -1, 6, MOST}) {
                Due.is("49: count(" + w + ") of " + state, x.count(w), -1);
            }
        }
    }
}
