/** A call that is let through changes what its promise tells, and nothing else; Twins tells what the cabinets hold. */
final class NothingElseTest {
    public static void main(String[] args) {
        is("2: a card", x -> x.card(), 4, "count 0|(sort|ridges) 4..|(image, )?filed 4");
        is("3: two cards from a row", x -> x.cards(2, 0, 2), 2, "count 0|(sort|ridges) [45]..|(image, )?filed [45]");
        is("4: SORT", x -> x.mend(5, 0, 0), 5, "count 3|sort 5|changes.*");
        is("4: RIDGES", x -> x.mend(205, 1, 0), 10, "count 3|ridges 205|changes.*");
        is("4: NEAR", x -> x.mend(0, 2, 9), 2, "count 3|near|changes.*");
        is("6: a byte", x -> x.feed('2'), 4, "count 2");
        is("6: a byte that makes a fault", x -> x.feed('?'), 4, "count 2|tape|law of the tape");
        is("7: a law", x -> x.law(), 1, "count 2|law|tape");
        is("7: a faulty law", x -> x.feed('?') + x.law(), 4 - 104, "count 2|tape|law of the tape");
        is("32: a card filed", x -> x.file(1, 9), -2000000000, "count 1|led 0|filed 1");
        is("32: a card filed elsewhere", x -> x.file(2, 9), 0, "led 0|filed 2");
        is("33: a card taken out", x -> x.take(3), 7, "count 1|led 1|filed 3");
        is("34: a search", x -> x.search(110), 2, "led [234]");
        is("34: a search in vain", x -> x.search(130), -2, "led [23]");
        is("36: an image", x -> x.image(), 2, "image.*");
        is("37: the image laid back", x -> x.back(), 1, "count 1|led .|filed .");
        is("38: a change undone", x -> x.undo(), 2, "count 3|ridges 209|changes.*");
        is("39: a change done again", x -> x.redo(), 0, "count 3|sort 301|changes.*");
        is("40: a body", x -> x.body(1), 3, "count 4");
        is("41: an act", x -> x.act(1, 0, 3), 4, "count 5|trace .*");
        is("41: no such act", x -> x.act(1, 4, 3), 0, "count 5|trace .*");
        is("43: a print on a shelf", x -> x.keep(0, 1), 1, "shelf 0");
        is("43: a shelf with nothing", x -> x.keep(2, -1), 1, "shelf 2.*");
        is("44: a row for nothing", x -> x.row(0, 4, 3), 1, "shelf 0.*");
        is("44: a row for a print", x -> x.row(1, 0, 60), 1, "shelf 1.*");
        is("44: a row for a row", x -> x.row(4, 3, 5), 1, "shelf 4.*");
        is("45: an element", x -> x.put(2, 39, 9), 1, "shelf 2 at 39");
        is("47: to another row", x -> x.row(0, 0, 5) + x.shift(2, 0, 0, 1, 3), 4, "shelf 0.*");
        is("47: within a row", x -> x.shift(2, 0, 2, 1, 1), 1, "shelf 2 at 1");
        Due.end("NothingElseTest");
    }

    private static void is(String name, Call call, long due, String pattern) {
        Twins.changesOnly(name, Twins.USED, call, due, pattern);
    }
}
