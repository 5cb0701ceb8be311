/** Promises 26 to 31: what was inked, how cards must be mended, which clerk was wrong, glasses by draws. */
final class InkedTest {
    public static void main(String[] args) {
        who();
        isTrue();
        refusedRows();
        mended();
        judge();
        clerk();
        drawn();
        Due.end("InkedTest");
    }

    private static void who() {
        TenInDrawers x = Due.cabinet(3);
        Due.sorts(x, 1, "0123451111");
        Due.sorts(x, 2, "5555555555");
        Due.row(x, 0, 0, 1, 1, 1, 1, 1, 1, 1, 1, 1, 1);
        Due.is("26: all loops", x.who(0), 0b101);
        Due.row(x, 0, 0, 5, 4, 5);
        Due.is("26: fewer", x.who(0), 0b111);
        Due.row(x, 0, 0);
        Due.is("26: none", x.who(0), 0b111);
        Due.row(x, 0, 0, 0, 1, 2, 3, 1, 0, 1, 1, 1, 1, 0, 0);
        Due.is("26: more do not count", x.who(0), 0b110);
        Due.row(x, 0, 0, 0, 1, 2, 3, 1, 0, 1, 1, 1, 1, 6, -1);
        Due.is("26: nor what is no sort", x.who(0), 0b110);
        Due.row(x, 0, 0, 0, 1, 2, 3, 1, 0, 1, 1, 1, 6);
        Due.is("26: no sort", x.who(0), 0);
        Due.row(x, 0, 0, -1);
        Due.is("26: below 0", x.who(0), 0);
        Due.row(x, 0, 0, 1, 1, 1, 1, 3);
        Due.is("26: a whorl", x.who(0), 0b100);
    }

    private static void isTrue() {
        TenInDrawers x = Due.cabinet(2);
        Due.sorts(x, 1, "0123451111");
        Due.row(x, 5, 0, 0, 1, 2, 3, 2, 2, 1, 1, 1, 0);
        Due.is("27: 0", x.isTrue(5, 0), 0);
        Due.is("27: 1", x.isTrue(5, 1), 4);
        x.put(5, 4, 4);
        Due.is("27: 1 at 9", x.isTrue(5, 1), 9);
        x.put(5, 9, 1);
        Due.is("27: true", x.isTrue(5, 1), -2);
        x.put(5, 5, 6);
        Due.is("27: no sort on a bandage", x.isTrue(5, 1), 5);
        Due.row(x, 5, 0);
        Due.is("27: none told", x.isTrue(5, 0), -2);
    }

    private static void refusedRows() {
        TenInDrawers x = Due.cabinet(1);
        Due.is("26: shelf -1", x.who(-1), -1);
        Due.is("26: shelf 6", x.who(6), -1);
        Due.is("26: nothing", x.who(0), -11);
        Due.is("27: shelf 6", x.isTrue(6, 0), -1);
        Due.is("27: nothing", x.isTrue(0, 0), -11);
        Due.is("27: no card, nothing", x.isTrue(0, 1), -1);
        Due.is("27: card -1", x.isTrue(0, -1), -1);
        Due.is("29: shelf -1", x.judge(-1), -1);
        Due.is("29: shelf 6", x.judge(6), -1);
        Due.is("29: nothing", x.judge(0), -11);
        Due.is("30: shelf 6", x.clerk(6), -1);
        Due.is("30: shelf -1", x.clerk(-1), -1);
        Due.is("30: nothing", x.clerk(0), -11);
        x.body(3);
        x.keep(0, 0);
        Due.is("26: a print", x.who(0), -12);
        Due.is("27: a print", x.isTrue(0, 0), -12);
        Due.is("29: a print", x.judge(0), -12);
        Due.is("30: a print", x.clerk(0), -12);
        for (int sort = 0; sort < 5; sort++) {
            x.row(0, sort, 0);
            Due.is("26: a row of " + sort, x.who(0), sort == 0 ? 1 : -12);
            Due.is("27: a row of " + sort, x.isTrue(0, 0), sort == 0 ? -2 : -12);
            Due.is("29: a row of " + sort, x.judge(0), sort == 1 ? -2 : -12);
            Due.is("30: a row of " + sort, x.clerk(0), sort == 1 ? -3 : -12);
        }
    }

    private static void mended() {
        TenInDrawers x = Due.cabinet(1);
        Due.sorts(x, 0, "3450113333");
        // whorls 0, 6, 7, 8, 9: 512 64 2 32 1; open 1, 2: 16 256
        int sure = 512 + 64 + 2 + 32 + 1;
        Due.is("28: its own", x.mended(0, sure, 0), 0);
        Due.is("28: its own, which", x.mended(0, sure, 1), 0);
        Due.is("28: open ones", x.mended(0, sure + 16 + 256, 0), 0);
        Due.is("28: 0", x.mended(0, 0, 0), 5);
        Due.is("28: 0, which", x.mended(0, 0, 1), 0b1111000001);
        Due.is("28: 1023", x.mended(0, 1023, 0), 3);
        Due.is("28: 1023, which", x.mended(0, 1023, 1), 0b111000);
        Due.is("28: one whorl more", x.mended(0, sure + 8, 1), 0b1000);
        Due.is("28: one whorl less", x.mended(0, sure - 32, 1), 0b100000000);
        Due.is("28: both", x.mended(0, sure - 32 + 8 + 16, 0), 2);
        int[][] bad = {{1, 0, 0}, {-1, 0, 0}, {0, -1, 0}, {0, 1024, 0}, {0, 0, 2}, {0, 0, -1}};
        for (int[] b : bad) {
            Due.is("28: mended(" + b[0] + ", " + b[1] + ", " + b[2] + ")", x.mended(b[0], b[1], b[2]), -1);
        }
    }

    private static void judge() {
        TenInDrawers x = Due.cabinet(2);
        Due.sorts(x, 0, "3111111114");
        // 0: 512, 513; 1: 0
        Due.row(x, 2, 1, 0, 512, 1, 0, 0, 513);
        Due.is("29: all so", x.judge(2), -2);
        x.put(2, 5, 514);
        Due.is("29: third", x.judge(2), 2);
        x.put(2, 3, 1);
        Due.is("29: second", x.judge(2), 1);
        x.put(2, 0, 2);
        Due.is("29: no such card", x.judge(2), 0);
        x.put(2, 0, -1);
        Due.is("29: card -1", x.judge(2), 0);
        Due.row(x, 2, 1, 0, 512, 1);
        Due.is("29: what lacks", x.judge(2), 1);
        Due.row(x, 2, 1, 0);
        Due.is("29: what lacks at once", x.judge(2), 0);
        Due.row(x, 2, 1, 0, 512, 1, 1024);
        Due.is("29: no such drawer", x.judge(2), 1);
        Due.row(x, 2, 1, 1, -1);
        Due.is("29: drawer -1", x.judge(2), 0);
        Due.row(x, 2, 1, 1, -1024);
        Due.is("29: drawer -1024", x.judge(2), 0);
        Due.row(x, 2, 1);
        Due.is("29: none", x.judge(2), -2);
    }

    private static void clerk() {
        TenInDrawers x = Due.cabinet(3);
        Due.sorts(x, 0, "3111111114");
        Due.sorts(x, 2, "1131111111");
        // 0: 512, 513; 1: 0; 2: 256
        Due.row(x, 2, 1, 0, 512, 1, 0, 0, 513);
        Due.is("30: so without", x.clerk(2), -3);
        int[] worth = {512, 16, 256, 8, 128, 4, 64, 2, 32, 1};
        for (int f = 0; f < 10; f++) {
            Due.row(x, 2, 1, 0, 512 ^ worth[f], 1, worth[f], 2, 256 ^ worth[f], 0, 513 ^ worth[f]);
            Due.is("30: by " + f, x.clerk(2), f);
        }
        Due.row(x, 2, 1, 0, 512 ^ 2, 1, 0);
        Due.is("30: not always", x.clerk(2), -2);
        Due.row(x, 2, 1, 0, 512 ^ 2 ^ 4);
        Due.is("30: by two", x.clerk(2), -2);
        Due.row(x, 2, 1, 0, 512 ^ 2, 1);
        Due.is("30: what lacks", x.clerk(2), -2);
        Due.row(x, 2, 1, 0, 512, 1);
        Due.is("30: lacks, else so", x.clerk(2), -2);
        Due.row(x, 2, 1, 0, 512 ^ 2, 3, 2);
        Due.is("30: no such card", x.clerk(2), -2);
        Due.row(x, 2, 1, 0, 512 ^ 2, 1, 1024 + 2);
        Due.is("30: no such drawer", x.clerk(2), -2);
        Due.row(x, 2, 1, 1, 16);
        Due.is("30: one two", x.clerk(2), 1);
        x.mend(101, 0, 5);
        Due.is("30: a bandage is so either way", x.clerk(2), -3);
    }

    private static void drawn() {
        TenInDrawers x = new TenInDrawers();
        Due.is("31: no cards", x.drawn(0, 1, 0), -5);
        Due.is("31: no cards, bad", x.drawn(0, 0, 0), -1);
        x.card();
        Due.is("31: one card", x.drawn(7, 50, 0), 50);
        Due.is("31: one card, cards", x.drawn(7, 50, 1), 50);
        x.card();
        Due.is("31: two alike, cards", x.drawn(7, 50, 1), 100);
        Due.is("31: two alike: the first is best", x.drawn(7, 50, 0), firsts(7, 50, 2));
        Due.is("31: another seed", x.drawn(-99, 50, 0), firsts(-99, 50, 2));
        Due.is("31: few", x.drawn(5, 3, 0), firsts(5, 3, 2));
        for (int f = 0; f < 10; f++) {
            x.mend(100 + f, 1, 20);
        }
        Due.is("31: told apart", x.drawn(7, 50, 0), 50);
        Due.is("31: told apart, cards", x.drawn(7, 50, 1), 50);
        Due.sorts(x, 0, "5555555555");
        Due.sorts(x, 1, "2222222222");
        for (int f = 0; f < 10; f++) {
            x.mend(100 + f, 1, 10);
        }
        // Of 0 an arch is drawn, which 1 may not be; of 1 a loop, which 0 may be.
        Due.is("31: bandaged ones are arches", x.drawn(7, 50, 0), firsts(7, 50, 2));
        Due.is("31: bandaged ones are arches, cards", x.drawn(7, 50, 1), 100 - firsts(7, 50, 2));
        Due.law(x, "1");
        Due.sorts(x, 1, "4444444444");
        Due.is("31: smudges are smudges", x.drawn(3, 20, 1), 40 - firsts(3, 20, 2));
        int[][] bad = {{0, 0}, {51, 0}, {-1, 0}, {1, 2}, {1, -1}};
        for (int[] b : bad) {
            Due.is("31: drawn(0, " + b[0] + ", " + b[1] + ")", x.drawn(0, b[0], b[1]), -1);
        }
        ofFingers();
    }

    /** How many of n draws are of card 0. */
    private static int firsts(int seed, int n, int cards) {
        int z = seed;
        int firsts = 0;
        for (int i = 0; i < n; i++) {
            z = z * 1103515245 + 12345;
            firsts += (z >>> 8) % cards == 0 ? 1 : 0;
        }
        return firsts;
    }

    /** Card 0 has on each finger other ridges, of which card 1 has those of the even fingers. */
    private static void ofFingers() {
        TenInDrawers x = Due.cabinet(2);
        x.mend(0, 2, 0);
        for (int f = 0; f < 10; f++) {
            x.mend(f, 1, f);
            x.mend(100 + f, 1, f % 2 == 0 ? f : 30);
        }
        int z = 12;
        int right = 0;
        int cards = 0;
        for (int i = 0; i < 30; i++) {
            z = z * 1103515245 + 12345;
            boolean even = (z >>> 16) % 10 % 2 == 0;
            boolean first = (z >>> 8) % 2 == 0;
            right += first || !even ? 1 : 0;
            cards += even ? 2 : 1;
        }
        Due.is("31: of fingers, right ones", x.drawn(12, 30, 0), right);
        Due.is("31: of fingers, cards", x.drawn(12, 30, 1), cards);
    }
}
