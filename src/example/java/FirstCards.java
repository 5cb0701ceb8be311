/** The example of README.md: what the calls are told as numbers, and what they answer. */
public final class FirstCards {
    public static void main(String[] args) {
        TenInDrawers cabinet = new TenInDrawers();

        int card = cabinet.card();          // a plain card: ten loops to the left with ten ridges
        cabinet.mend(100 * card + 0, 0, 3); // its finger 0 (a thumb) is a whorl
        say("least drawer", cabinet.drawer(card, 0));
        cabinet.mend(100 * card + 1, 0, 4); // its finger 1 is a smudge: a loop to the left or a whorl
        say("drawers it may lie in", cabinet.drawer(card, 2));

        int where = cabinet.file(card, 512);
        say("it was filed nowhere", where == TenInDrawers.VOID ? 1 : 0);
        say("a whorl of 11 ridges on a glass is of card", cabinet.search(100 * 3 + 11));

        cabinet.row(0, 0, 20);              // shelf 0 holds a row of 20 bytes: ten sorts and ten ridges by turns
        for (int f = 0; f < 10; f++) {
            cabinet.put(0, 2 * f, 1);
            cabinet.put(0, 2 * f + 1, 8 + f);
        }
        say("cards that came from the row", cabinet.cards(0, 0, 1));
        say("fingers alike of cards 0 and 1", cabinet.same(100 * 0 + 1, 0));

        for (char letter : "k=0?0;99-r*r".toCharArray()) {
            cabinet.feed(letter);
        }
        say("the law is read", cabinet.law());
        say("how alike their fingers 9 are by it", cabinet.alike(100 * 0 + 1, 9));

        cabinet.undo();
        say("what the smudge was", cabinet.of(100 * card + 1, 0));

        int body = cabinet.body(3);         // a print of kind 3, ARCH: under WHORL, under PRINT
        say("it counts", cabinet.act(body, 1, 5));
        say("the first body that ran", cabinet.trace(0));

        say("of a card that is not there", cabinet.drawer(7, 0));
    }

    private static void say(String what, int answer) {
        System.out.println(what + ": " + answer);
    }
}
