/** Promises 9 to 14: drawers of cards, what is misfiled, how full drawers are, what must be looked at. */
final class DrawersTest {
    public static void main(String[] args) {
        eachFinger();
        drawer();
        may();
        misfiled();
        found();
        full();
        look();
        Due.end("DrawersTest");
    }

    private static void eachFinger() {
        int[] worth = {512, 16, 256, 8, 128, 4, 64, 2, 32, 1};
        for (int f = 0; f < 10; f++) {
            TenInDrawers x = Due.cabinet(1);
            x.mend(f, 0, 3);
            Due.is("9: least, whorl " + f, x.drawer(0, 0), worth[f]);
            x.mend(f, 0, 4);
            Due.is("9: least, smudge " + f, x.drawer(0, 0), 0);
            Due.is("9: greatest, smudge " + f, x.drawer(0, 1), worth[f]);
            x.mend(f, 0, 5);
            Due.is("9: least, bandaged " + f, x.drawer(0, 0), 0);
            Due.is("9: greatest, bandaged " + f, x.drawer(0, 1), worth[f]);
            for (int sort = 0; sort <= 2; sort++) {
                x.mend(f, 0, sort);
                Due.is("9: greatest, sort " + sort, x.drawer(0, 1), 0);
            }
        }
    }

    private static void drawer() {
        TenInDrawers x = Due.cabinet(2);
        Due.sorts(x, 0, "3450123450");
        // whorls 0, 6; open 1, 2, 7, 8
        Due.is("9: least", x.drawer(0, 0), 512 + 64);
        Due.is("9: greatest", x.drawer(0, 1), 512 + 64 + 16 + 256 + 2 + 32);
        Due.is("9: how many", x.drawer(0, 2), 16);
        Due.is("9: whorls surely", x.drawer(0, 3), 2);
        Due.is("9: whorls at most", x.drawer(0, 4), 6);
        Due.sorts(x, 1, "5555555555");
        Due.is("9: all open, least", x.drawer(1, 0), 0);
        Due.is("9: all open, greatest", x.drawer(1, 1), 1023);
        Due.is("9: all open", x.drawer(1, 2), 1024);
        Due.is("9: all open, surely", x.drawer(1, 3), 0);
        Due.is("9: all open, at most", x.drawer(1, 4), 10);
        Due.is("9: what -1", x.drawer(0, -1), -1);
        Due.is("9: what 5", x.drawer(0, 5), -1);
        Due.is("9: card -1", x.drawer(-1, 0), -1);
        Due.is("9: card 2", x.drawer(2, 0), -1);
    }

    private static void may() {
        TenInDrawers x = Due.cabinet(1);
        Due.sorts(x, 0, "3141111111");
        // whorl 0; open 2
        for (int d = 0; d < 400; d++) {
            Due.is("10: may(0, " + d + ")", x.may(0, d), 0);
        }
        Due.is("10: 512", x.may(0, 512), 1);
        Due.is("10: 768", x.may(0, 768), 1);
        Due.is("10: 513", x.may(0, 513), 0);
        Due.is("10: 1023", x.may(0, 1023), 0);
        Due.is("10: 256", x.may(0, 256), 0);
        Due.is("10: 1024", x.may(0, 1024), -1);
        Due.is("10: -1", x.may(0, -1), -1);
        Due.is("10: no card", x.may(1, 0), -1);
        Due.is("10: card -1", x.may(-1, 0), -1);
    }

    private static void misfiled() {
        TenInDrawers x = Due.cabinet(4);
        Due.is("11: none filed", x.misfiled(), 0);
        x.file(0, 0);
        x.file(1, 1);
        x.file(3, 512);
        Due.is("11: one and three", x.misfiled(), 0b1010);
        x.mend(300, 0, 4);
        Due.is("11: three by a smudge", x.misfiled(), 0b10);
        x.mend(0, 0, 3);
        Due.is("11: nought by a whorl", x.misfiled(), 0b11);
        x.take(1);
        Due.is("11: one taken", x.misfiled(), 0b1);
    }

    private static void found() {
        TenInDrawers x = Due.cabinet(1);
        Due.is("12: no card", x.found(1), -1);
        Due.is("12: card -1", x.found(-1), -1);
        Due.is("12: not filed", x.found(0), -2);
        x.file(0, 0);
        Due.is("12: at once", x.found(0), 0);
        x.file(0, 3);
        Due.is("12: 3 down", x.found(0), 6);
        x.file(0, 1023);
        Due.is("12: from the top", x.found(0), 1023);
        x.file(0, 1000);
        Due.is("12: 1000 down, 23 up", x.found(0), 1023);
        x.mend(9, 0, 3);
        x.mend(0, 0, 4);
        // drawers 1, 513
        x.file(0, 0);
        Due.is("12: 1 up, none down", x.found(0), 1);
        x.file(0, 2);
        Due.is("12: 1 down", x.found(0), 2);
        x.file(0, 257);
        Due.is("12: both 256 away, up first", x.found(0), 511);
        x.file(0, 258);
        Due.is("12: 255 up", x.found(0), 509);
        x.file(0, 256);
        Due.is("12: 255 down", x.found(0), 510);
        x.file(0, 600);
        Due.is("12: 87 down", x.found(0), 174);
        x.mend(0, 0, 3);
        // drawer 513
        x.file(0, 10);
        Due.is("12: 503 up, 10 down", x.found(0), 513);
        x.take(0);
        Due.is("12: taken", x.found(0), -2);
    }

    private static void full() {
        TenInDrawers x = Due.cabinet(0);
        Due.is("13: empty, fullest", x.full(-1), 0);
        Due.is("13: empty, how many", x.full(-2), 0);
        x.card();
        x.card();
        x.card();
        Due.sorts(x, 0, "3111111111");
        Due.sorts(x, 1, "4111111111");
        Due.sorts(x, 2, "1311111141");
        // 512; 0, 512; 16, 48
        Due.is("13: in 0", x.full(0), 1);
        Due.is("13: in 512", x.full(512), 2);
        Due.is("13: in 16", x.full(16), 1);
        Due.is("13: in 48", x.full(48), 1);
        Due.is("13: in 1023", x.full(1023), 0);
        Due.is("13: fullest", x.full(-1), 512);
        Due.is("13: how many", x.full(-2), 4);
        x.mend(0, 0, 1);
        Due.is("13: fullest now", x.full(-1), 0);
        x.mend(100, 0, 3);
        Due.is("13: of like ones the least", x.full(-1), 0);
        Due.is("13: -3", x.full(-3), -1);
        Due.is("13: 1024", x.full(1024), -1);
        Due.sorts(x, 2, "5555555555");
        Due.is("13: all", x.full(-2), 1024);
    }

    private static void look() {
        TenInDrawers x = Due.cabinet(4);
        Due.sorts(x, 0, "3111111111");
        Due.sorts(x, 1, "4111111111");
        Due.sorts(x, 2, "1111111111");
        Due.sorts(x, 3, "5311111111");
        Due.is("14: how many 0", x.look(0, 0), 1);
        Due.is("14: which 0", x.look(0, 1), 0b0010);
        Due.is("14: how many 1", x.look(1, 0), 2);
        Due.is("14: which 1", x.look(1, 1), 0b0101);
        Due.is("14: which 2", x.look(2, 1), 0b0010);
        Due.is("14: how many 3", x.look(3, 0), 0);
        Due.is("14: which 3", x.look(3, 1), 0);
        x.mend(301, 0, 4);
        Due.is("14: which 3 now", x.look(3, 1), 0b0111);
        Due.is("14: how many 3 now", x.look(3, 0), 3);
        Due.is("14: what 2", x.look(0, 2), -1);
        Due.is("14: what -1", x.look(0, -1), -1);
        Due.is("14: no card", x.look(4, 0), -1);
        Due.is("14: card -1", x.look(-1, 0), -1);
    }
}
