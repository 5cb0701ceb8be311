/** Promises 40 to 42, 48 and 49: bodies, their acts, the trace; the same acts told by real classes. */
final class ActsTest {
    private static int[] ran = new int[200];
    private static int count = 0;

    public static void main(String[] args) {
        body();
        act();
        trace();
        refused();
        Due.end("ActsTest");
    }

    private static void ran(int number) {
        ran[count++] = number;
    }

    private interface Inks {
        int n();

        default int inks(int x) {
            ran(1);
            return x + n();
        }
    }

    private interface Tells {
        int counts(int x);

        int files(int x);

        default int tells(int x) {
            ran(2);
            return counts(x) - files(1);
        }
    }

    private static class Print implements Inks, Tells {
        private final int n;

        Print(int n) {
            this.n = n;
        }

        public int n() {
            return n;
        }

        public int counts(int x) {
            ran(10);
            return inks(x) * 2;
        }

        public int files(int x) {
            ran(11);
            return x ^ n;
        }
    }

    private static class Loop extends Print {
        Loop(int n) {
            super(n);
        }

        public int inks(int x) {
            ran(20);
            return super.inks(x) + 3;
        }
    }

    private static class Whorl extends Print {
        Whorl(int n) {
            super(n);
        }

        public int counts(int x) {
            ran(30);
            return -super.counts(x);
        }
    }

    private static class Arch extends Whorl {
        Arch(int n) {
            super(n);
        }

        public int files(int x) {
            ran(40);
            return super.files(x) * 3;
        }

        public int counts(int x) {
            ran(41);
            return super.counts(x + 1);
        }
    }

    private static class Left extends Loop {
        Left(int n) {
            super(n);
        }

        public int files(int x) {
            ran(50);
            return super.files(x) - inks(2);
        }
    }

    private static class Smudge extends Arch {
        Smudge(int n) {
            super(n);
        }

        public int tells(int x) {
            ran(60);
            return super.tells(x) ^ 5;
        }
    }

    private static class Drawer extends Print {
        Drawer(int n) {
            super(n);
        }

        public int inks(int x) {
            ran(70);
            return super.inks(x) * 2;
        }
    }

    private static class Glass extends Left {
        Glass(int n) {
            super(n);
        }

        public int counts(int x) {
            ran(80);
            return super.counts(x) + files(2);
        }

        public int tells(int x) {
            ran(81);
            return super.tells(x) - 1;
        }
    }

    private static Print print(int kind, int n) {
        switch (kind) {
            case 0: return new Print(n);
            case 1: return new Loop(n);
            case 2: return new Whorl(n);
            case 3: return new Arch(n);
            case 4: return new Left(n);
            case 5: return new Smudge(n);
            case 6: return new Drawer(n);
            default: return new Glass(n);
        }
    }

    private static int played(Print p, int act, int x) {
        count = 0;
        switch (act) {
            case 0: return p.inks(x);
            case 1: return p.counts(x);
            case 2: return p.files(x);
            default: return p.tells(x);
        }
    }

    private static void body() {
        TenInDrawers x = new TenInDrawers();
        Due.is("40: kind -1", x.body(-1), -1);
        Due.is("40: kind 8", x.body(8), -1);
        for (int i = 0; i < 50; i++) {
            Due.is("40: body", x.body(i % 8), i);
        }
        Due.is("49: bodies", x.count(4), 50);
        Due.is("40: full", x.body(0), -3);
        Due.is("40: bad before full", x.body(8), -1);
    }

    private static void act() {
        int[] xs = {0, 1, -1, 5, -77, 1000003, Integer.MAX_VALUE, Integer.MIN_VALUE};
        for (int x : xs) {
            TenInDrawers t = new TenInDrawers();
            for (int n = 0; n < 50; n++) {
                t.body((n * 3 + 1) % 8);
            }
            for (int n = 18; n < 26; n++) {
                Print p = print((n * 3 + 1) % 8, n);
                for (int a = 0; a < 4; a++) {
                    String call = "41: act(" + n + " of kind " + (n * 3 + 1) % 8 + ", " + a + ", " + x + ")";
                    Due.is(call, t.act(n, a, x), played(p, a, x));
                    Due.is("49: ran, " + call, t.count(5), count);
                    for (int i = 0; i < count && i < 24; i++) {
                        if (a == 3 || x == 5) {
                            Due.is("42: trace(" + i + "), " + call, t.trace(i), ran[i]);
                        }
                    }
                }
            }
        }
    }

    private static void trace() {
        TenInDrawers t = new TenInDrawers();
        t.body(0);
        t.body(7);
        Due.is("41: inks", t.act(1, 0, 10), 14);
        Due.is("42: first", t.trace(0), 20);
        Due.is("42: second", t.trace(1), 1);
        Due.is("42: no third", t.trace(2), -1);
        Due.is("42: -1", t.trace(-1), -1);
        Due.is("49: two ran", t.count(5), 2);
        Due.is("41: tells", t.act(1, 3, 10), played(print(7, 1), 3, 10));
        int[] due = {81, 2, 80, 10, 20, 1, 50, 11, 20, 1, 50, 11, 20, 1};
        Due.is("49: ran", t.count(5), due.length);
        for (int i = 0; i < due.length; i++) {
            Due.is("42: trace(" + i + ")", t.trace(i), due[i]);
        }
        Due.is("42: no more", t.trace(due.length), -1);
        Due.is("42: 24", t.trace(24), -1);
    }

    private static void refused() {
        TenInDrawers t = new TenInDrawers();
        t.body(0);
        int[][] none = {{1, 0}, {-1, 0}, {0, 4}, {0, -1}, {50, 0}, {Integer.MAX_VALUE, 0}};
        for (int[] b : none) {
            t.act(0, 3, 7);
            Due.is("49: four ran", t.count(5), 4);
            Due.is("41: act(" + b[0] + ", " + b[1] + ", 5)", t.act(b[0], b[1], 5), 0);
            Due.is("49: none ran", t.count(5), 0);
            Due.is("42: no trace", t.trace(0), -1);
        }
    }
}
