/**
 * What is answered so changes nothing: each promise's refusals, and of two that hold at once the one named first; calls that
 * only ask change nothing either. Twins tells what the cabinets hold.
 */
final class RefusedTest {
    private static final int NEW = Twins.NEW, USED = Twins.USED, FULL = Twins.FULL;
    private static final int BAD = -1, NOT = -2, IS_FULL = -3, STATE = -5;
    private static final long NONE = Long.MIN_VALUE;

    public static void main(String[] args) {
        cards();
        told();
        tapeAndLaw();
        drawers();
        twoCards();
        glass();
        inked();
        clerks();
        filing();
        changes();
        bodies();
        shelves();
        rows();
        shifts();
        Due.end("RefusedTest");
    }

    private static void is(int state, String name, Call call, long due) {
        Twins.unchanged(name, state, call, due);
    }

    private static void cards() {
        is(FULL, "2: FULL: a thirteenth card", x -> x.card(), IS_FULL);
        is(USED, "3: BAD: shelf -1", x -> x.cards(-1, 0, 1), BAD);
        is(USED, "3: BAD: shelf 6", x -> x.cards(6, 0, 1), BAD);
        is(USED, "3: BAD: none of them", x -> x.cards(2, 0, 0), BAD);
        is(USED, "3: BAD: four of them", x -> x.cards(2, 0, 4), BAD);
        is(USED, "3: BAD ahead of a missing row", x -> x.cards(0, 0, 4), BAD);
        is(USED, "3: BAD ahead of -12", x -> x.cards(1, 0, 0), BAD);
        is(USED, "3: -12: a PRINT", x -> x.cards(1, 0, 1), -12);
        is(USED, "3: -12: a ROW of shorts", x -> x.cards(3, 0, 1), -12);
        is(USED, "3: -12: a ROW of longs", x -> x.cards(4, 0, 1), -12);
        is(USED, "3: the row is missing, none came", x -> x.cards(0, 0, 3), 0);
        is(USED, "3: an empty row, none came", x -> x.cards(5, 0, 3), 0);
        is(USED, "3: it ends within the card, none came", x -> x.cards(2, 21, 3), 0);
        is(USED, "3: a place below 0, none came", x -> x.cards(2, -1, 3), 0);
        is(USED, "3: RIDGES told as SORTS, none came", x -> x.cards(2, 1, 1), 0);
        is(FULL, "3: CARDS are FULL, none came", x -> x.cards(0, 0, 3), 0);
        is(FULL, "3: CARDS are FULL, -12", x -> x.cards(1, 0, 3), -12);
        is(FULL, "3: CARDS are FULL, BAD", x -> x.cards(0, 0, 4), BAD);
        is(NEW, "3: nothing at all", x -> x.cards(0, 0, 1), 0);
    }

    private static void told() {
        is(NEW, "4: BAD: no CARD", x -> x.mend(0, 0, 2), BAD);
        is(USED, "4: BAD: a fifth CARD", x -> x.mend(400, 0, 2), BAD);
        is(USED, "4: BAD: FINGER 10", x -> x.mend(10, 1, 2), BAD);
        is(USED, "4: BAD: below 0", x -> x.mend(-1, 1, 2), BAD);
        is(USED, "4: BAD: SORT 6", x -> x.mend(0, 0, 6), BAD);
        is(USED, "4: BAD: SORT -1", x -> x.mend(0, 0, -1), BAD);
        is(USED, "4: BAD: RIDGES 31", x -> x.mend(0, 1, 31), BAD);
        is(USED, "4: BAD: RIDGES -1", x -> x.mend(0, 1, -1), BAD);
        is(USED, "4: BAD: NEAR 10", x -> x.mend(0, 2, 10), BAD);
        is(USED, "4: BAD: NEAR -1", x -> x.mend(0, 2, -1), BAD);
        is(USED, "4: BAD: NEAR of number 1", x -> x.mend(1, 2, 3), BAD);
        is(USED, "4: BAD: what -1", x -> x.mend(0, -1, 2), BAD);
        is(USED, "4: BAD: what 3", x -> x.mend(0, 3, 2), BAD);
        is(USED, "4: BAD: FILED is not mended", x -> x.mend(1, 10, 2), BAD);
        is(USED, "4: the same SORT is no change", x -> x.mend(0, 0, 3), 3);
        is(USED, "4: the same RIDGES are no change", x -> x.mend(209, 1, 12), 12);
        is(USED, "4: the same NEAR is no change", x -> x.mend(0, 2, 2), 2);
        is(USED, "5: BAD: a fifth CARD", x -> x.of(400, 0), BAD);
        is(USED, "5: BAD: a fifth CARD is not FILED", x -> x.of(4, 10), BAD);
        is(USED, "5: BAD: what 3", x -> x.of(0, 3), BAD);
        is(USED, "5: NEAR is told", x -> x.of(0, 2), 2);
        is(USED, "5: FILED is told", x -> x.of(3, 10), 7);
        is(USED, "5: VOID: not FILED", x -> x.of(1, 10), -2000000000);
    }

    private static void tapeAndLaw() {
        is(USED, "6: BAD: byte -1", x -> x.feed(-1), BAD);
        is(USED, "6: BAD: byte 256", x -> x.feed(256), BAD);
        is(FULL, "6: FULL: a 121st byte", x -> x.feed('1'), IS_FULL);
        is(FULL, "6: BAD ahead of FULL", x -> x.feed(256), BAD);
        is(NEW, "7: no TEXT leaves all as it is", x -> x.law(), -100);
        is(USED, "8: BAD: a fifth CARD", x -> x.alike(4, 0), BAD);
        is(USED, "8: BAD: a fifth CARD as the one", x -> x.alike(400, 0), BAD);
        is(USED, "8: BAD: FINGER 10", x -> x.alike(1, 10), BAD);
        is(USED, "8: BAD: FINGER -1", x -> x.alike(1, -1), BAD);
        is(USED, "8: a CARD and itself", x -> x.alike(303, 5), 25);
        is(NEW, "8: BAD: no CARD", x -> x.alike(0, 0), BAD);
    }

    private static void drawers() {
        is(USED, "9: BAD: a fifth CARD", x -> x.drawer(4, 0), BAD);
        is(USED, "9: BAD: what 5", x -> x.drawer(0, 5), BAD);
        is(USED, "9: how many is told", x -> x.drawer(3, 2), 1);
        is(USED, "10: BAD: DRAWER 1024", x -> x.may(0, 1024), BAD);
        is(USED, "10: BAD: DRAWER -1", x -> x.may(0, -1), BAD);
        is(USED, "10: BAD: CARD 4", x -> x.may(4, 0), BAD);
        is(USED, "11: MISFILED is told", x -> x.misfiled(), 9);
        is(USED, "12: BAD: CARD 4", x -> x.found(4), BAD);
        is(USED, "12: NOT: not FILED", x -> x.found(1), NOT);
        is(USED, "12: FOUND is told", x -> x.found(3), 14);
        is(USED, "13: BAD: -3", x -> x.full(-3), BAD);
        is(USED, "13: BAD: 1024", x -> x.full(1024), BAD);
        is(USED, "13: the fullest is told", x -> x.full(-1), 0);
        is(USED, "14: BAD: CARD 4", x -> x.look(4, 0), BAD);
        is(USED, "14: BAD: what 2", x -> x.look(0, 2), BAD);
        is(USED, "14: LOOK is told", x -> x.look(2, 1), 8);
    }

    private static void twoCards() {
        is(USED, "15: BAD: the CARD itself", x -> x.same(202, 0), BAD);
        is(USED, "15: BAD: CARD 4", x -> x.same(4, 0), BAD);
        is(USED, "15: BAD: what 2", x -> x.same(203, 2), BAD);
        is(USED, "15: FINGERS are told", x -> x.same(203, 0), 10);
        is(USED, "16: BAD: what 2", x -> x.oneMan(2), BAD);
        is(NEW, "16: NOT: no pair", x -> x.oneMan(1), NOT);
        is(USED, "16: the first pair is told", x -> x.oneMan(1), 43);
        is(USED, "17: BAD: CARD 4", x -> x.nearest(4), BAD);
        is(USED, "17: NEAREST is told", x -> x.nearest(2), 3);
    }

    private static void glass() {
        is(USED, "18: BAD: no glass", x -> x.whose(131, -1), BAD);
        is(USED, "18: BAD: a bandaged glass", x -> x.whose(510, 0), BAD);
        is(USED, "18: BAD: CARD -3", x -> x.whose(110, -3), BAD);
        is(USED, "18: BAD: CARD 4", x -> x.whose(110, 4), BAD);
        is(USED, "18: WHOSE is told", x -> x.whose(110, 2), 1023);
        is(USED, "19: BAD: no glass", x -> x.best(31), BAD);
        is(NEW, "19: NOT: no CARD", x -> x.best(110), NOT);
        is(USED, "20: BAD: no glass", x -> x.drawers(431), BAD);
        is(USED, "21: BAD: k -3", x -> x.order(110, -3), NONE);
        is(USED, "21: BAD: no glass", x -> x.order(500, 0), NONE);
        is(USED, "21: BAD ahead of NOT", x -> x.order(431, 12), NONE);
        is(USED, "21: NOT: no such k", x -> x.order(110, 4), NOT);
        is(NEW, "21: NOT: no CARD", x -> x.order(110, -2), NOT);
        is(USED, "22: BAD: what 2", x -> x.sign(2), BAD);
        is(USED, "23: BAD: what 2", x -> x.signs(2), BAD);
        is(USED, "23: NOT: two are alike", x -> x.signs(0), NOT);
        is(USED, "24: BAD: pc 110", x -> x.enough(110, 1), BAD);
        is(USED, "24: BAD: n 10000", x -> x.enough(102, 10000), BAD);
        is(USED, "24: NOT: none is enough", x -> x.enough(102, 2), NOT);
        is(USED, "25: BAD: two of one", x -> x.chance(102, 2, 0), NONE);
        is(USED, "25: BAD: part 2", x -> x.chance(102, 1, 2), NONE);
    }

    private static void inked() {
        is(USED, "26: BAD: shelf 6", x -> x.who(6), BAD);
        is(USED, "26: -11: nothing", x -> x.who(0), -11);
        is(USED, "26: -12: a PRINT", x -> x.who(1), -12);
        is(USED, "26: -12: shorts", x -> x.who(3), -12);
        is(USED, "26: WHO is told", x -> x.who(5), 15);
        is(USED, "27: BAD: CARD 4", x -> x.isTrue(5, 4), BAD);
        is(USED, "27: BAD: shelf -1", x -> x.isTrue(-1, 0), BAD);
        is(USED, "27: BAD ahead of -11", x -> x.isTrue(0, 4), BAD);
        is(USED, "27: BAD ahead of -12", x -> x.isTrue(3, 4), BAD);
        is(USED, "27: -11: nothing", x -> x.isTrue(0, 0), -11);
        is(USED, "27: -12: shorts", x -> x.isTrue(3, 0), -12);
        is(USED, "27: NOT: all so", x -> x.isTrue(5, 0), NOT);
        is(USED, "28: BAD: CARD 4", x -> x.mended(4, 0, 0), BAD);
        is(USED, "28: BAD: DRAWER 1024", x -> x.mended(0, 1024, 0), BAD);
        is(USED, "28: BAD: what 2", x -> x.mended(0, 0, 2), BAD);
        is(USED, "28: MENDED is told", x -> x.mended(2, 3, 1), 0b1010000000);
    }

    private static void clerks() {
        is(USED, "29: BAD: shelf 6", x -> x.judge(6), BAD);
        is(USED, "29: -11: nothing", x -> x.judge(0), -11);
        is(USED, "29: -12: bytes", x -> x.judge(2), -12);
        is(USED, "29: JUDGED is told", x -> x.judge(3), 0);
        is(USED, "30: BAD: shelf -1", x -> x.clerk(-1), BAD);
        is(USED, "30: -11: nothing", x -> x.clerk(0), -11);
        is(USED, "30: -12: a PRINT", x -> x.clerk(1), -12);
        is(USED, "30: NOT: by none", x -> x.clerk(3), NOT);
        is(FULL, "30: NOT: all but one of CARD 0 in 0", x -> x.clerk(1), NOT);
        is(USED, "31: BAD: n 0", x -> x.drawn(1, 0, 0), BAD);
        is(USED, "31: BAD: n 51", x -> x.drawn(1, 51, 0), BAD);
        is(USED, "31: BAD: what 2", x -> x.drawn(1, 1, 2), BAD);
        is(NEW, "31: STATE: no CARDS", x -> x.drawn(1, 1, 0), STATE);
        is(NEW, "31: BAD ahead of STATE", x -> x.drawn(1, 51, 0), BAD);
        is(FULL, "31: DRAWN is told", x -> x.drawn(1, 50, 0) >= 0 ? 1 : 0, 1);
    }

    private static void filing() {
        is(USED, "32: BAD: CARD 4", x -> x.file(4, 0), BAD);
        is(USED, "32: BAD: CARD -1", x -> x.file(-1, 0), BAD);
        is(USED, "32: BAD: DRAWER 1024", x -> x.file(0, 1024), BAD);
        is(USED, "32: BAD: DRAWER -1", x -> x.file(0, -1), BAD);
        is(USED, "33: BAD: CARD 4", x -> x.take(4), BAD);
        is(USED, "33: STATE: nowhere", x -> x.take(1), STATE);
        is(NEW, "33: BAD: no CARDS", x -> x.take(0), BAD);
        is(USED, "34: BAD: no glass", x -> x.search(131), BAD);
        is(USED, "35: BAD: 5", x -> x.led(5), BAD);
        is(USED, "35: BAD: -1", x -> x.led(-1), BAD);
        is(USED, "35: searches are told", x -> x.led(2), 2);
        is(NEW, "37: STATE: no image", x -> x.back(), STATE);
    }

    private static void changes() {
        is(NEW, "38: STATE: none", x -> x.undo(), STATE);
        is(NEW, "39: STATE: none", x -> x.redo(), STATE);
        is(FULL, "39: STATE: none was undone", x -> x.redo(), STATE);
        is(USED, "39: DONE AGAIN, and UNDONE", x -> x.redo() + x.undo(), 3);
        is(USED, "38: UNDONE, and DONE AGAIN", x -> x.undo() + x.redo(), 3);
    }

    private static void bodies() {
        is(USED, "40: BAD: KIND 8", x -> x.body(8), BAD);
        is(USED, "40: BAD: KIND -1", x -> x.body(-1), BAD);
        is(FULL, "40: FULL: a 51st", x -> x.body(0), IS_FULL);
        is(FULL, "40: BAD ahead of FULL", x -> x.body(8), BAD);
        is(NEW, "41: no such PRINT, no TRACE as before", x -> x.act(0, 0, 1), 0);
        is(USED, "41: the same ACT again", x -> x.act(0, 3, 10), 26);
        is(USED, "42: BAD: behind the last", x -> x.trace(14), BAD);
        is(USED, "42: BAD: -1", x -> x.trace(-1), BAD);
        is(USED, "42: THE TRACE is told", x -> x.trace(0), 81);
    }

    private static void shelves() {
        is(USED, "43: BAD: shelf 6", x -> x.keep(6, 0), BAD);
        is(USED, "43: BAD: shelf -1", x -> x.keep(-1, -1), BAD);
        is(USED, "43: BAD: body 3", x -> x.keep(2, 3), BAD);
        is(USED, "43: BAD: body -2", x -> x.keep(2, -2), BAD);
        is(USED, "43: nothing where nothing is", x -> x.keep(0, -1), 1);
        is(USED, "44: BAD: shelf 6", x -> x.row(6, 0, 1), BAD);
        is(USED, "44: BAD: SORT 5", x -> x.row(2, 5, 1), BAD);
        is(USED, "44: BAD: SORT -1", x -> x.row(2, -1, 1), BAD);
        is(USED, "44: BAD: 61", x -> x.row(2, 0, 61), BAD);
        is(USED, "44: BAD ahead of -14", x -> x.row(2, 5, -1), BAD);
        is(USED, "44: -14: below 0", x -> x.row(2, 0, -1), -14);
        is(USED, "44: an empty row for an empty one", x -> x.row(5, 0, 0), 1);
        is(USED, "48: BAD: shelf 6", x -> x.taken(6, 0), BAD);
        is(USED, "48: BAD ahead of -11", x -> x.taken(0, 8), BAD);
        is(USED, "48: BAD ahead of -12", x -> x.taken(2, 8), BAD);
        is(USED, "48: -11: nothing", x -> x.taken(0, 0), -11);
        is(USED, "48: -12: a ROW", x -> x.taken(2, 0), -12);
        is(USED, "48: -12: not under it", x -> x.taken(1, 2), -12);
        is(USED, "49: BAD: 6", x -> x.count(6), BAD);
        is(USED, "49: BAD: -1", x -> x.count(-1), BAD);
    }

    private static void rows() {
        is(USED, "45: BAD: shelf 6", x -> x.put(6, 0, 1), BAD);
        is(USED, "45: BAD ahead of -13", x -> x.put(-1, -1, 1), BAD);
        is(USED, "45: -11: nothing", x -> x.put(0, 0, 1), -11);
        is(USED, "45: -11 ahead of -13", x -> x.put(0, -1, 1), -11);
        is(USED, "45: -12: a PRINT", x -> x.put(1, 0, 1), -12);
        is(USED, "45: -12 ahead of -13", x -> x.put(1, 60, 1), -12);
        is(USED, "45: -13: behind the last", x -> x.put(2, 40, 1), -13);
        is(USED, "45: -13: below 0", x -> x.put(2, -1, 1), -13);
        is(USED, "45: -13: in an empty row", x -> x.put(5, 0, 1), -13);
        is(USED, "46: BAD: shelf 6", x -> x.element(6, 0), NONE);
        is(USED, "46: -11: nothing", x -> x.element(0, 0), NONE);
        is(USED, "46: -12: a PRINT", x -> x.element(1, 0), NONE);
        is(USED, "46: -13: behind the last", x -> x.element(2, 40), NONE);
        is(USED, "46: -13: below 0", x -> x.element(2, -1), NONE);
        is(USED, "46: an element is told", x -> x.element(4, 1), Long.MAX_VALUE);
    }

    private static void shifts() {
        is(USED, "47: BAD: shelf 6", x -> x.shift(2, 0, 6, 0, 1), BAD);
        is(USED, "47: BAD: shelf -1", x -> x.shift(-1, 0, 2, 0, 1), BAD);
        is(USED, "47: BAD ahead of -11", x -> x.shift(0, 0, 6, 0, 1), BAD);
        is(USED, "47: BAD ahead of -12", x -> x.shift(6, 0, 1, 0, 1), BAD);
        is(USED, "47: -11: nothing here", x -> x.shift(0, 0, 2, 0, 1), -11);
        is(USED, "47: -11: nothing there", x -> x.shift(2, 0, 0, 0, 1), -11);
        is(USED, "47: -11 ahead of -12", x -> x.shift(1, 0, 0, 0, 1), -11);
        is(USED, "47: -11 ahead of -13", x -> x.shift(2, -1, 0, 0, 1), -11);
        is(USED, "47: -12: a PRINT", x -> x.shift(2, 0, 1, 0, 1), -12);
        is(USED, "47: -12: of unlike SORTS", x -> x.shift(2, 0, 3, 0, 1), -12);
        is(USED, "47: -12 ahead of -13", x -> x.shift(2, 40, 3, 0, 1), -12);
        is(USED, "47: -13: from behind the last", x -> x.shift(2, 40, 2, 0, 1), -13);
        is(USED, "47: -13: to behind the last", x -> x.shift(2, 0, 5, 0, 1), -13);
        is(USED, "47: -13: too many", x -> x.shift(2, 0, 2, 1, 40), -13);
        is(USED, "47: -13: below 0", x -> x.shift(2, -1, 2, 0, 1), -13);
        is(USED, "47: -13: fewer than none", x -> x.shift(2, 0, 2, 1, -1), -13);
        is(USED, "47: none, at both ends", x -> x.shift(2, 40, 5, 0, 0), 0);
        is(USED, "47: each to its own place", x -> x.shift(2, 0, 2, 0, 40), 40);
    }
}
