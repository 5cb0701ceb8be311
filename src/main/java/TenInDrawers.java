/**
 * A cabinet of cards with ten prints each. The document ../shared/DOC.md says what each call does;
 * the words here (card, finger, sort, drawer, glass, law) are the document's.
 */
public final class TenInDrawers {
    public static final int BAD = -1, NOT = -2, FULL = -3, STATE = -5, VOID = -2000000000;

    // The host's refusals.
    private static final int NOTHING_THERE = -11, OTHER_KIND = -12, NO_SUCH_PLACE = -13, SIZE_BELOW_ZERO = -14;
    // clerk(): what the clerk told is so without any finger read the other way.
    private static final int SO_WITHOUT = -3;

    private static final int CARDS = 12, FINGERS = 10, DRAWERS = 1024;
    private static final int PAIRS = CARDS * (CARDS - 1) / 2;
    private static final int FINGER_SETS = 1 << FINGERS;

    private static final int ARCH = 0, LOOP_LEFT = 1, WHORL = 3, SMUDGE = 4, BANDAGED = 5;
    private static final int MOST_RIDGES = 30, MOST_NEAR = 9;
    // By sort: the plain sorts 0 .. 3 that it may be, as bits.
    private static final int[] MAY_BE = {1, 2, 4, 8, 10, 15};

    // What mend() and of() name.
    private static final int SORT = 0, RIDGES = 1, NEAR = 2, FILED = 10;

    // What led() names.
    private static final int LED_FILED = 0, LED_TAKEN = 1, LED_SEARCHES = 2, LED_LOOKED = 3, LED_FOUND = 4, LEDS = 5;

    private static final int BYTES = 0, SHORTS = 1;

    private final Cabinet cabinet;
    private final Law rule;
    private final Changes changes;
    private final Deeds deeds;
    private final Prints prints;
    private final Shelves shelves;
    // Rows that calls use again, so that no call makes one of its own.
    private final int[] weights;
    private final int[] looks;
    private final int[] tellers;

    public TenInDrawers() {
        cabinet = new Cabinet();
        rule = new Law();
        changes = new Changes();
        deeds = new Deeds();
        prints = new Prints();
        shelves = new Shelves();
        weights = new int[CARDS];
        looks = new int[CARDS];
        tellers = new int[PAIRS];
    }

    // ---- cards

    public int card() {
        if (cabinet.held >= CARDS) {
            return FULL;
        }
        return cabinet.addPlain();
    }

    public int cards(int shelf, int i, int n) {
        if (!shelves.has(shelf) || n < 1 || n > 3) {
            return BAD;
        }
        int refusal = shelves.rowRefusal(shelf, BYTES);
        if (refusal == NOTHING_THERE) {
            return 0;
        }
        if (refusal != 0) {
            return refusal;
        }
        int came = 0;
        while (came < n && cardComes(shelf, (long) i + 2L * FINGERS * came)) {
            came++;
        }
        return came;
    }

    private boolean cardComes(int shelf, long from) {
        if (cabinet.held >= CARDS || from < 0 || from + 2 * FINGERS > shelves.lengthOf(shelf)) {
            return false;
        }
        int start = (int) from;
        for (int f = 0; f < FINGERS; f++) {
            if (!isSort(shelves.valueAt(shelf, start + 2 * f)) || !isRidges(shelves.valueAt(shelf, start + 2 * f + 1))) {
                return false;
            }
        }
        int card = cabinet.addPlain();
        for (int f = 0; f < FINGERS; f++) {
            cabinet.tellSort(card, f, (int) shelves.valueAt(shelf, start + 2 * f));
            cabinet.tellRidges(card, f, (int) shelves.valueAt(shelf, start + 2 * f + 1));
        }
        return true;
    }

    private static boolean isSort(long v) {
        return v >= ARCH && v <= BANDAGED;
    }

    private static boolean isRidges(long v) {
        return v >= 0 && v <= MOST_RIDGES;
    }

    public int mend(int number, int what, int v) {
        if (!isTold(number, what) || !isValue(what, v)) {
            return BAD;
        }
        int was = cabinet.told(number, what);
        if (was != v) {
            cabinet.tell(number, what, v);
            changes.note(number, what, was, v);
        }
        return was;
    }

    private boolean isTold(int number, int what) {
        if (what == NEAR) {
            return number == 0;
        }
        return (what == SORT || what == RIDGES) && number >= 0 && cabinet.has(number / 100) && isFinger(number % 100);
    }

    private static boolean isFinger(int f) {
        return f >= 0 && f < FINGERS;
    }

    private static boolean isValue(int what, int v) {
        if (what == SORT) {
            return isSort(v);
        }
        return what == RIDGES ? isRidges(v) : v >= 0 && v <= MOST_NEAR;
    }

    public int of(int number, int what) {
        if (what == FILED && cabinet.has(number)) {
            return cabinet.filed[number];
        }
        if (!isTold(number, what)) {
            return BAD;
        }
        return cabinet.told(number, what);
    }

    public int feed(int letter) {
        if (letter < 0 || letter > 255) {
            return BAD;
        }
        return rule.fed(letter);
    }

    public int law() {
        int fault = rule.readTape();
        return fault < 0 ? 1 : -100 - fault;
    }

    public int alike(int ab, int f) {
        if (!areCards(ab) || !isFinger(f)) {
            return BAD;
        }
        return alikePrints(ab / 100, ab % 100, f);
    }

    private boolean areCards(int ab) {
        return ab >= 0 && cabinet.has(ab / 100) && cabinet.has(ab % 100);
    }

    private int alikePrints(int one, int other, int f) {
        return alikeness(cabinet.sorts[one][f], cabinet.ridges[one][f], other, f);
    }

    private int alikeness(int sort, int ridges, int card, int f) {
        int other = cabinet.sorts[card][f];
        int apart = Math.abs(ridges - cabinet.ridges[card][f]);
        rule.name(f, sort, other, apart, truth(mayBeSame(sort, other)), cabinet.near);
        return rule.alikeness();
    }

    private static boolean mayBeSame(int s, int t) {
        return isSort(s) && isSort(t) && (MAY_BE[s] & MAY_BE[t]) != 0;
    }

    private static int truth(boolean so) {
        return so ? 1 : 0;
    }

    // ---- drawers

    public int drawer(int card, int what) {
        if (!cabinet.has(card)) {
            return BAD;
        }
        int sure = cabinet.sure[card];
        int open = cabinet.open[card];
        switch (what) {
            case 0: return sure;
            case 1: return sure | open;
            case 2: return 1 << Integer.bitCount(open);
            case 3: return Integer.bitCount(sure);
            case 4: return Integer.bitCount(sure | open);
            default: return BAD;
        }
    }

    public int may(int card, int d) {
        if (!cabinet.has(card) || !isDrawer(d)) {
            return BAD;
        }
        return truth(cabinet.mayLie(card, d));
    }

    private static boolean isDrawer(int d) {
        return d >= 0 && d < DRAWERS;
    }

    public int misfiled() {
        int bits = 0;
        for (int c = 0; c < cabinet.held; c++) {
            int d = cabinet.filed[c];
            if (isDrawer(d) && !cabinet.mayLie(c, d)) {
                bits |= 1 << c;
            }
        }
        return bits;
    }

    public int found(int card) {
        if (!cabinet.has(card)) {
            return BAD;
        }
        int from = cabinet.filed[card];
        if (!isDrawer(from)) {
            return NOT;
        }
        if (cabinet.mayLie(card, from)) {
            return 0;
        }
        int through = 0;
        for (int step = 1; step < DRAWERS; step++) {
            if (isDrawer(from + step)) {
                through++;
                if (cabinet.mayLie(card, from + step)) {
                    return through;
                }
            }
            if (isDrawer(from - step)) {
                through++;
                if (cabinet.mayLie(card, from - step)) {
                    return through;
                }
            }
        }
        return through;
    }

    public int full(int d) {
        if (d == -1) {
            return fullestDrawer();
        }
        if (d == -2) {
            return countDrawers(allCards());
        }
        return isDrawer(d) ? cardsIn(d) : BAD;
    }

    private int cardsIn(int d) {
        int n = 0;
        for (int c = 0; c < cabinet.held; c++) {
            if (cabinet.mayLie(c, d)) {
                n++;
            }
        }
        return n;
    }

    private int fullestDrawer() {
        int fullest = 0;
        int most = 0;
        for (int d = 0; d < DRAWERS; d++) {
            int n = cardsIn(d);
            if (n > most) {
                most = n;
                fullest = d;
            }
        }
        return fullest;
    }

    private int allCards() {
        return (1 << cabinet.held) - 1;
    }

    /** How many drawers there are in which at least one of these cards (bits) may lie. */
    private int countDrawers(int cardBits) {
        int n = 0;
        for (int d = 0; d < DRAWERS; d++) {
            if (liesAny(cardBits, d)) {
                n++;
            }
        }
        return n;
    }

    private boolean liesAny(int cardBits, int d) {
        for (int c = 0; c < cabinet.held; c++) {
            if ((cardBits >> c & 1) != 0 && cabinet.mayLie(c, d)) {
                return true;
            }
        }
        return false;
    }

    public int look(int card, int what) {
        if (!cabinet.has(card) || what < 0 || what > 1) {
            return BAD;
        }
        int bits = 0;
        for (int c = 0; c < cabinet.held; c++) {
            if (c != card && cabinet.shareDrawer(c, card)) {
                bits |= 1 << c;
            }
        }
        return what == 0 ? Integer.bitCount(bits) : bits;
    }

    // ---- two cards

    public int same(int ab, int what) {
        if (!areCards(ab) || ab / 100 == ab % 100 || what < 0 || what > 1) {
            return BAD;
        }
        int one = ab / 100;
        int other = ab % 100;
        return what == 0 ? Integer.bitCount(likeFingers(one, other)) : alikeCards(one, other);
    }

    /** The fingers (bits) in which two cards may be of one man. */
    private int likeFingers(int one, int other) {
        int bits = 0;
        for (int f = 0; f < FINGERS; f++) {
            if (fits(cabinet.sorts[one][f], cabinet.ridges[one][f], other, f)) {
                bits |= 1 << f;
            }
        }
        return bits;
    }

    /** Whether a print of this sort and these ridges may be finger f of the card. */
    private boolean fits(int sort, int ridges, int card, int f) {
        return mayBeSame(sort, cabinet.sorts[card][f]) && Math.abs(ridges - cabinet.ridges[card][f]) <= cabinet.near;
    }

    private int alikeCards(int one, int other) {
        int sum = 0;
        for (int f = 0; f < FINGERS; f++) {
            sum += alikePrints(one, other, f);
        }
        return sum;
    }

    public int oneMan(int what) {
        if (what < 0 || what > 1) {
            return BAD;
        }
        int pairs = 0;
        int first = NOT;
        for (int a = 0; a < cabinet.held; a++) {
            for (int b = a + 1; b < cabinet.held; b++) {
                if (likeFingers(a, b) == FINGER_SETS - 1) {
                    first = pairs == 0 ? 20 * a + b : first;
                    pairs++;
                }
            }
        }
        return what == 0 ? pairs : first;
    }

    public int nearest(int card) {
        if (!cabinet.has(card)) {
            return BAD;
        }
        int nearestCard = NOT;
        int most = -1;
        for (int c = 0; c < cabinet.held; c++) {
            int sum = c == card ? -1 : alikeCards(card, c);
            if (sum > most) {
                most = sum;
                nearestCard = c;
            }
        }
        return nearestCard;
    }

    // ---- a glass

    private static boolean isGlass(int sr) {
        return sr >= 0 && sr / 100 <= SMUDGE && sr % 100 <= MOST_RIDGES;
    }

    public int whose(int sr, int card) {
        if (!isGlass(sr) || card < -2 || card >= cabinet.held) {
            return BAD;
        }
        if (card >= 0) {
            return glassFingers(sr, card);
        }
        return card == -1 ? glassCards(sr) : countGlassFingers(sr);
    }

    /** The fingers (bits) of a card that the print on the glass may be. */
    private int glassFingers(int sr, int card) {
        int bits = 0;
        for (int f = 0; f < FINGERS; f++) {
            if (fits(sr / 100, sr % 100, card, f)) {
                bits |= 1 << f;
            }
        }
        return bits;
    }

    private int glassCards(int sr) {
        int bits = 0;
        for (int c = 0; c < cabinet.held; c++) {
            if (glassFingers(sr, c) != 0) {
                bits |= 1 << c;
            }
        }
        return bits;
    }

    private int countGlassFingers(int sr) {
        int n = 0;
        for (int c = 0; c < cabinet.held; c++) {
            n += Integer.bitCount(glassFingers(sr, c));
        }
        return n;
    }

    public int best(int sr) {
        return isGlass(sr) ? bestFinger(sr) : BAD;
    }

    private int bestFinger(int sr) {
        int bestPlace = NOT;
        int most = -1;
        for (int c = 0; c < cabinet.held; c++) {
            for (int f = 0; f < FINGERS; f++) {
                int much = glassAlikeness(sr, c, f);
                if (much > most) {
                    most = much;
                    bestPlace = 20 * c + f;
                }
            }
        }
        return bestPlace;
    }

    /** How alike the glass and a finger are; -1 if it may not be that finger. */
    private int glassAlikeness(int sr, int card, int f) {
        int sort = sr / 100;
        int ridges = sr % 100;
        return fits(sort, ridges, card, f) ? alikeness(sort, ridges, card, f) : -1;
    }

    public int drawers(int sr) {
        return isGlass(sr) ? countDrawers(glassCards(sr)) : BAD;
    }

    public long order(int sr, int k) {
        if (!isGlass(sr) || k < -2) {
            return Long.MIN_VALUE;
        }
        int looked = lineUp(sr);
        if (looked == 0 || k >= looked) {
            return NOT;
        }
        return k >= 0 ? looks[k] : meanPart(looked, k == -2);
    }

    /** Puts the cards to be looked at into looks, likeliest first: how many they are. */
    private int lineUp(int sr) {
        int looked = 0;
        for (int c = 0; c < cabinet.held; c++) {
            weights[c] = likelihood(sr, c);
            if (weights[c] > 0) {
                int at = looked;
                while (at > 0 && weights[looks[at - 1]] < weights[c]) {
                    looks[at] = looks[at - 1];
                    at--;
                }
                looks[at] = c;
                looked++;
            }
        }
        return looked;
    }

    private int likelihood(int sr, int card) {
        int most = 0;
        for (int f = 0; f < FINGERS; f++) {
            most = Math.max(most, glassAlikeness(sr, card, f));
        }
        return most;
    }

    private long meanPart(int looked, boolean above) {
        long top = 0;
        long bottom = 0;
        for (int i = 0; i < looked; i++) {
            long weight = weights[looks[i]];
            top += (i + 1) * weight;
            bottom += weight;
        }
        return above ? lowest(top, bottom) : lowest(bottom, top);
    }

    /** The part `wanted` of a fraction in lowest terms whose other part is `other`. */
    private static long lowest(long wanted, long other) {
        long divisor = commonDivisor(wanted, other);
        return divisor == 0 ? wanted : wanted / divisor;
    }

    private static long commonDivisor(long a, long b) {
        long x = a;
        long y = b;
        // Euclid needs fewer than 100 steps for any two longs.
        for (int i = 0; i < 100 && y != 0; i++) {
            long rest = x % y;
            x = y;
            y = rest;
        }
        return x;
    }

    public int sign(int what) {
        if (what < 0 || what > 1) {
            return BAD;
        }
        int first = 0;
        int least = CARDS + 1;
        for (int f = 0; f < FINGERS; f++) {
            int greater = greaterPart(f);
            if (greater < least) {
                least = greater;
                first = f;
            }
        }
        return what == 0 ? first : least;
    }

    private int greaterPart(int f) {
        int surely = 0;
        for (int c = 0; c < cabinet.held; c++) {
            if (cabinet.sorts[c][f] == WHORL) {
                surely++;
            }
        }
        return Math.max(surely, cabinet.held - surely);
    }

    public int signs(int what) {
        if (what < 0 || what > 1) {
            return BAD;
        }
        int pairs = listTellers();
        int fewest = FINGERS + 1;
        int which = NOT;
        for (int set = 0; set < FINGER_SETS; set++) {
            int n = Integer.bitCount(set);
            if (n < fewest && tellsAll(set, pairs)) {
                fewest = n;
                which = set;
            }
        }
        if (which < 0) {
            return NOT;
        }
        return what == 0 ? fewest : which;
    }

    /** Puts for each pair of cards the fingers (bits) that tell them apart into tellers: how many pairs. */
    private int listTellers() {
        int pairs = 0;
        for (int a = 0; a < cabinet.held; a++) {
            for (int b = a + 1; b < cabinet.held; b++) {
                if (pairs < PAIRS) {
                    tellers[pairs] = unlikeSorts(a, b);
                    pairs++;
                }
            }
        }
        return pairs;
    }

    private int unlikeSorts(int a, int b) {
        int bits = 0;
        for (int f = 0; f < FINGERS; f++) {
            if (!mayBeSame(cabinet.sorts[a][f], cabinet.sorts[b][f])) {
                bits |= 1 << f;
            }
        }
        return bits;
    }

    private boolean tellsAll(int set, int pairs) {
        for (int i = 0; i < pairs && i < PAIRS; i++) {
            if ((tellers[i] & set) == 0) {
                return false;
            }
        }
        return true;
    }

    private static boolean arePoints(int pc) {
        return pc >= 100 && pc / 100 <= 12 && pc % 100 >= 2 && pc % 100 <= 9;
    }

    public int enough(int pc, int n) {
        if (!arePoints(pc) || n < 1 || n > 9999) {
            return BAD;
        }
        int p = pc / 100;
        int c = pc % 100;
        long all = power(c, p);
        long ways = 0;
        int least = NOT;
        // From the top down, for ways (a or more alike) only grow that way.
        for (int a = p; a >= 0; a--) {
            ways += waysAlike(p, c, a);
            if (n * ways >= all) {
                return least;
            }
            least = a;
        }
        return least;
    }

    private static long power(int base, int times) {
        long v = 1;
        for (int i = 0; i < times; i++) {
            v *= base;
        }
        return v;
    }

    /** In how many of the c to the p ways just a of p points are alike. */
    private static long waysAlike(int p, int c, int a) {
        long choices = 1;
        for (int i = 1; i <= a; i++) {
            choices = choices * (p - a + i) / i;
        }
        return choices * power(c - 1, p - a);
    }

    public long chance(int pc, int a, int part) {
        if (!arePoints(pc) || a < 0 || a > pc / 100 || part < 0 || part > 1) {
            return Long.MIN_VALUE;
        }
        long ways = waysAlike(pc / 100, pc % 100, a);
        long all = power(pc % 100, pc / 100);
        return part == 0 ? lowest(ways, all) : lowest(all, ways);
    }

    // ---- inked, clerks, draws

    public int who(int shelf) {
        int refusal = shelves.rowRefusal(shelf, BYTES);
        if (refusal != 0) {
            return refusal;
        }
        int bits = 0;
        for (int c = 0; c < cabinet.held; c++) {
            if (firstUnlike(shelf, c) == NOT) {
                bits |= 1 << c;
            }
        }
        return bits;
    }

    public int isTrue(int shelf, int card) {
        if (!cabinet.has(card)) {
            return BAD;
        }
        int refusal = shelves.rowRefusal(shelf, BYTES);
        return refusal != 0 ? refusal : firstUnlike(shelf, card);
    }

    /** The first finger of a card that may not have been inked as the row of bytes says; NOT. */
    private int firstUnlike(int shelf, int card) {
        int told = Math.min(FINGERS, shelves.lengthOf(shelf));
        for (int f = 0; f < told; f++) {
            long v = shelves.valueAt(shelf, f);
            if (!isSort(v) || !mayBeSame((int) v, cabinet.sorts[card][f])) {
                return f;
            }
        }
        return NOT;
    }

    public int mended(int card, int d, int what) {
        if (!cabinet.has(card) || !isDrawer(d) || what < 0 || what > 1) {
            return BAD;
        }
        int otherwise = (d ^ cabinet.sure[card]) & ~cabinet.open[card];
        int bits = 0;
        for (int f = 0; f < FINGERS; f++) {
            if ((otherwise & drawerBit(f)) != 0) {
                bits |= 1 << f;
            }
        }
        return what == 0 ? Integer.bitCount(bits) : bits;
    }

    /** What a whorl on finger f counts in the number of a drawer: for each finger another bit. */
    private static int drawerBit(int f) {
        int worth = 16 >> f / 2;
        return f % 2 == 0 ? 32 * worth : worth;
    }

    public int judge(int shelf) {
        int refusal = shelves.rowRefusal(shelf, SHORTS);
        return refusal != 0 ? refusal : firstWrong(shelf, 0);
    }

    /** The first two of a clerk's row that is not so, if he read these drawer bits the other way; NOT. */
    private int firstWrong(int shelf, int otherWay) {
        int twos = (shelves.lengthOf(shelf) + 1) / 2;
        for (int i = 0; i < twos; i++) {
            if (!isSo(shelf, i, otherWay)) {
                return i;
            }
        }
        return NOT;
    }

    private boolean isSo(int shelf, int i, int otherWay) {
        if (2 * i + 1 >= shelves.lengthOf(shelf)) {
            return false;
        }
        int card = (int) shelves.valueAt(shelf, 2 * i);
        int d = (int) shelves.valueAt(shelf, 2 * i + 1);
        return cabinet.has(card) && isDrawer(d) && cabinet.mayLie(card, d ^ otherWay);
    }

    public int clerk(int shelf) {
        int refusal = shelves.rowRefusal(shelf, SHORTS);
        if (refusal != 0) {
            return refusal;
        }
        if (firstWrong(shelf, 0) == NOT) {
            return SO_WITHOUT;
        }
        for (int f = 0; f < FINGERS; f++) {
            if (firstWrong(shelf, drawerBit(f)) == NOT) {
                return f;
            }
        }
        return NOT;
    }

    public int drawn(int seed, int n, int what) {
        if (n < 1 || n > 50 || what < 0 || what > 1) {
            return BAD;
        }
        if (cabinet.held <= 0) {
            return STATE;
        }
        int z = seed;
        int sum = 0;
        for (int i = 0; i < n; i++) {
            z = z * 1103515245 + 12345;
            int card = (z >>> 8) % cabinet.held;
            int sr = glassOf(card, (z >>> 16) % FINGERS);
            sum += what == 0 ? truth(isBest(sr, card)) : Integer.bitCount(glassCards(sr));
        }
        return sum;
    }

    private int glassOf(int card, int f) {
        int sort = cabinet.sorts[card][f];
        return 100 * (sort == BANDAGED ? ARCH : sort) + cabinet.ridges[card][f];
    }

    private boolean isBest(int sr, int card) {
        int place = bestFinger(sr);
        return place >= 0 && place / 20 == card;
    }

    // ---- in deed

    public int file(int card, int d) {
        if (!cabinet.has(card) || !isDrawer(d)) {
            return BAD;
        }
        int was = cabinet.filed[card];
        cabinet.filed[card] = d;
        deeds.led[LED_FILED]++;
        return was;
    }

    public int take(int card) {
        if (!cabinet.has(card)) {
            return BAD;
        }
        int was = cabinet.filed[card];
        if (!isDrawer(was)) {
            return STATE;
        }
        cabinet.filed[card] = VOID;
        deeds.led[LED_TAKEN]++;
        return was;
    }

    public int search(int sr) {
        if (!isGlass(sr)) {
            return BAD;
        }
        deeds.led[LED_SEARCHES]++;
        int card = cabinet.nextFiled(-1);
        for (int i = 0; i < CARDS && card >= 0; i++) {
            deeds.led[LED_LOOKED]++;
            if (glassFingers(sr, card) != 0) {
                deeds.led[LED_FOUND]++;
                return card;
            }
            card = cabinet.nextFiled(card);
        }
        return NOT;
    }

    public int led(int what) {
        return what >= 0 && what < LEDS ? deeds.led[what] : BAD;
    }

    public int image() {
        deeds.keepImage(cabinet);
        return deeds.led[LED_SEARCHES];
    }

    public int back() {
        if (!deeds.imageKept) {
            return STATE;
        }
        deeds.layBack(cabinet);
        return deeds.led[LED_SEARCHES];
    }

    public int undo() {
        int i = changes.stepBack();
        if (i < 0) {
            return STATE;
        }
        cabinet.tell(changes.numbers[i], changes.whats[i], changes.olds[i]);
        return changes.done;
    }

    public int redo() {
        int i = changes.stepOn();
        if (i < 0) {
            return STATE;
        }
        cabinet.tell(changes.numbers[i], changes.whats[i], changes.news[i]);
        return changes.kept - changes.done;
    }

    // ---- acts, shelves

    public int body(int kind) {
        if (!prints.isKind(kind)) {
            return BAD;
        }
        return prints.addBody(kind);
    }

    public int act(int body, int act, int x) {
        return prints.play(body, act, x);
    }

    public int trace(int i) {
        return i >= 0 && i < prints.traced() ? prints.traceOf[i] : BAD;
    }

    public int keep(int shelf, int body) {
        if (!shelves.has(shelf) || body != -1 && !prints.has(body)) {
            return BAD;
        }
        shelves.keepBody(shelf, body);
        return 1;
    }

    public int row(int shelf, int sort, int n) {
        if (!shelves.has(shelf) || !shelves.isRowSort(sort) || n > Shelves.MOST) {
            return BAD;
        }
        if (n < 0) {
            return SIZE_BELOW_ZERO;
        }
        shelves.keepRow(shelf, sort, n);
        return 1;
    }

    public int put(int shelf, int i, long v) {
        int refusal = placeRefusal(shelf, i);
        if (refusal != 0) {
            return refusal;
        }
        shelves.putLowest(shelf, i, v);
        return 1;
    }

    private int placeRefusal(int shelf, int i) {
        int refusal = shelves.rowRefusal(shelf, Shelves.ANY_SORT);
        if (refusal != 0) {
            return refusal;
        }
        return i < 0 || i >= shelves.lengthOf(shelf) ? NO_SUCH_PLACE : 0;
    }

    public long element(int shelf, int i) {
        // An element may be -1 or -11 itself, so no refusal is answered by its own number.
        return placeRefusal(shelf, i) == 0 ? shelves.valueAt(shelf, i) : Long.MIN_VALUE;
    }

    public int shift(int shelf, int i, int other, int j, int n) {
        int refusal = shiftRefusal(shelf, other);
        if (refusal != 0) {
            return refusal;
        }
        if (!shelves.isStretch(shelf, i, n) || !shelves.isStretch(other, j, n)) {
            return NO_SUCH_PLACE;
        }
        System.arraycopy(shelves.values[shelf], i, shelves.values[other], j, n);
        return n;
    }

    private int shiftRefusal(int shelf, int other) {
        int one = shelves.rowRefusal(shelf, Shelves.ANY_SORT);
        int two = shelves.rowRefusal(other, Shelves.ANY_SORT);
        // Of several refusals the document names BAD first, then -11, then -12: the greater number.
        int first = one == 0 || two != 0 && two > one ? two : one;
        if (first != 0) {
            return first;
        }
        return shelves.sortOf(shelf) == shelves.sortOf(other) ? 0 : OTHER_KIND;
    }

    public int taken(int shelf, int k) {
        if (!shelves.has(shelf) || !prints.isKind(k)) {
            return BAD;
        }
        if (shelves.isEmpty(shelf)) {
            return NOTHING_THERE;
        }
        int kind = prints.kindOf(shelves.bodyOn(shelf));
        return prints.isUnder(kind, k) ? kind : OTHER_KIND;
    }

    public int count(int what) {
        switch (what) {
            case 0: return cabinet.held;
            case 1: return cabinet.countFiled();
            case 2: return rule.fedBytes;
            case 3: return changes.done;
            case 4: return prints.held;
            case 5: return prints.ran;
            default: return BAD;
        }
    }

    /** The cards as they are told, and where each is filed. */
    private static final class Cabinet {
        final int[][] sorts = new int[CARDS][FINGERS];
        final int[][] ridges = new int[CARDS][FINGERS];
        // By card: drawer bits of its whorls, and those that a smudge or a bandage leaves open.
        final int[] sure = new int[CARDS];
        final int[] open = new int[CARDS];
        final int[] filed = new int[CARDS];
        int held = 0;
        int near = 1;

        boolean has(int card) {
            return card >= 0 && card < held;
        }

        /** Adds a card as it is at first; only where there is room. */
        int addPlain() {
            if (held >= CARDS) {
                return FULL;
            }
            int card = held;
            held++;
            filed[card] = VOID;
            for (int f = 0; f < FINGERS; f++) {
                tellSort(card, f, LOOP_LEFT);
                tellRidges(card, f, 10);
            }
            return card;
        }

        void tellSort(int card, int f, int sort) {
            if (!has(card) || !isFinger(f)) {
                return;
            }
            int bit = drawerBit(f);
            sorts[card][f] = sort;
            sure[card] = sort == WHORL ? sure[card] | bit : sure[card] & ~bit;
            open[card] = sort == SMUDGE || sort == BANDAGED ? open[card] | bit : open[card] & ~bit;
        }

        void tellRidges(int card, int f, int n) {
            if (has(card) && isFinger(f)) {
                ridges[card][f] = n;
            }
        }

        void tell(int number, int what, int v) {
            if (what == NEAR) {
                near = v;
            } else if (what == SORT) {
                tellSort(number / 100, number % 100, v);
            } else {
                tellRidges(number / 100, number % 100, v);
            }
        }

        int told(int number, int what) {
            if (what == NEAR) {
                return near;
            }
            int card = number / 100;
            int f = number % 100;
            if (!has(card) || !isFinger(f)) {
                return BAD;
            }
            return what == SORT ? sorts[card][f] : ridges[card][f];
        }

        boolean mayLie(int card, int d) {
            return (d & ~open[card]) == sure[card];
        }

        boolean shareDrawer(int a, int b) {
            return ((sure[a] ^ sure[b]) & ~open[a] & ~open[b]) == 0;
        }

        int countFiled() {
            int n = 0;
            for (int c = 0; c < held; c++) {
                n += truth(isDrawer(filed[c]));
            }
            return n;
        }

        /** The filed card that is looked at next behind this one (-1: the first); -1 if none is. */
        int nextFiled(int card) {
            int after = has(card) ? placeInLine(card) : -1;
            int next = -1;
            for (int c = 0; c < held; c++) {
                boolean later = isDrawer(filed[c]) && placeInLine(c) > after;
                if (later && (next < 0 || placeInLine(c) < placeInLine(next))) {
                    next = c;
                }
            }
            return next;
        }

        private int placeInLine(int card) {
            return CARDS * filed[card] + card;
        }
    }

    /** The tape, and the law: a text made into codes that a small machine with a stack works out. */
    private static final class Law {
        private static final int TAPE = 120, CODES = 256, STACK = 128;
        private static final int MOST_OPEN = 6, MOST_DIGITS = 4;
        private static final int END = -1, NONE = -1;
        // A code from 0 on is a number, -1 to -6 are the names, and what is less are signs of the text.
        private static final int NAMES = 6;
        private static final int ASKS = -'?', COUNTS = -';', DENIES = -'!', TURNS = -'~';

        private final int[] tape = new int[TAPE];
        private final int[] stack = new int[STACK];
        private final int[] codes = new int[CODES];
        private final int[] draft = new int[CODES];
        // What f, s, t, r, k, n stand for.
        private final int[] named = new int[NAMES];
        int fedBytes = 0;
        private int coded = 0;
        private int drafted = 0;
        private int place = 0;
        private int fault = NONE;
        private int height = 0;

        int fed(int letter) {
            if (fedBytes >= TAPE) {
                return FULL;
            }
            tape[fedBytes] = letter;
            fedBytes++;
            return fedBytes;
        }

        /** Makes the tape the law and empties it: the fault, or -1. With a fault the law stays as it was. */
        int readTape() {
            place = 0;
            fault = NONE;
            drafted = 0;
            readText();
            fedBytes = 0;
            if (fault == NONE) {
                System.arraycopy(draft, 0, codes, 0, CODES);
                coded = drafted;
            }
            return fault;
        }

        private int next() {
            return fault == NONE && place < fedBytes && place < TAPE ? tape[place] : END;
        }

        private void fail() {
            if (fault == NONE) {
                fault = place;
            }
        }

        private void emit(int code) {
            if (drafted < CODES) {
                draft[drafted] = code;
                drafted++;
            }
        }

        private void readText() {
            readLine();
            for (int i = 0; i < TAPE && next() == ';'; i++) {
                place++;
                readLine();
            }
            if (place < fedBytes) {
                fail();
            }
        }

        private void readLine() {
            readE(0);
            if (next() != '?') {
                emit(COUNTS);
                return;
            }
            place++;
            emit(ASKS);
            int gap = drafted;
            emit(0);
            readE(0);
            emit(COUNTS);
            // Where to go on if the first E is 0: known only here.
            if (gap < CODES) {
                draft[gap] = drafted;
            }
        }

        private void readE(int depth) {
            readA(depth);
            for (int i = 0; i < TAPE && next() == '|'; i++) {
                place++;
                readA(depth);
                emit(-'|');
            }
        }

        private void readA(int depth) {
            readB(depth);
            for (int i = 0; i < TAPE && next() == '&'; i++) {
                place++;
                readB(depth);
                emit(-'&');
            }
        }

        private void readB(int depth) {
            readS(depth);
            int sign = next();
            if (sign == '<' || sign == '=' || sign == '>') {
                place++;
                readS(depth);
                emit(-sign);
            }
        }

        private void readS(int depth) {
            readP(depth);
            for (int i = 0; i < TAPE && (next() == '+' || next() == '-'); i++) {
                int sign = next();
                place++;
                readP(depth);
                emit(-sign);
            }
        }

        private void readP(int depth) {
            readO(depth);
            for (int i = 0; i < TAPE && (next() == '*' || next() == '/' || next() == '%'); i++) {
                int sign = next();
                place++;
                readO(depth);
                emit(-sign);
            }
        }

        private void readO(int depth) {
            int sign = next();
            if (isDigit(sign)) {
                readNumber();
            } else if (nameIndex(sign) >= 0) {
                place++;
                emit(-1 - nameIndex(sign));
            } else if ((sign == '(' || sign == '!' || sign == '-') && depth < MOST_OPEN) {
                place++;
                readOpened(sign, depth + 1);
            } else {
                fail();
            }
        }

        private void readOpened(int sign, int depth) {
            if (sign != '(') {
                readO(depth);
                emit(sign == '!' ? DENIES : TURNS);
                return;
            }
            readE(depth);
            if (next() == ')') {
                place++;
            } else {
                fail();
            }
        }

        private void readNumber() {
            int v = 0;
            for (int i = 0; i < MOST_DIGITS && isDigit(next()); i++) {
                v = 10 * v + next() - '0';
                place++;
            }
            emit(v);
        }

        private static boolean isDigit(int sign) {
            return sign >= '0' && sign <= '9';
        }

        private static int nameIndex(int sign) {
            switch (sign) {
                case 'f': return 0;
                case 's': return 1;
                case 't': return 2;
                case 'r': return 3;
                case 'k': return 4;
                case 'n': return 5;
                default: return -1;
            }
        }

        /** Tells what the names stand for from now on. */
        void name(int f, int s, int t, int r, int k, int n) {
            named[0] = f;
            named[1] = s;
            named[2] = t;
            named[3] = r;
            named[4] = k;
            named[5] = n;
        }

        /** How alike two prints are of which name() told. */
        int alikeness() {
            if (coded == 0) {
                return Math.max(0, 10 * named[4] - named[3]);
            }
            height = 0;
            int at = 0;
            for (int steps = 0; steps < CODES && at >= 0 && at < coded && at < CODES; steps++) {
                int code = codes[at];
                at++;
                if (code >= 0) {
                    push(code);
                } else if (code >= -NAMES) {
                    push(named[-code - 1]);
                } else if (code == COUNTS) {
                    return Math.max(0, Math.min(99, pop()));
                } else if (code == ASKS) {
                    int otherwise = at < CODES ? codes[at] : coded;
                    at = pop() != 0 ? at + 1 : otherwise;
                } else {
                    int b = pop();
                    int a = code == DENIES || code == TURNS ? 0 : pop();
                    push(worked(-code, a, b));
                }
            }
            return 0;
        }

        private static int worked(int sign, int a, int b) {
            switch (sign) {
                case '|': return a != 0 || b != 0 ? 1 : 0;
                case '&': return a != 0 && b != 0 ? 1 : 0;
                case '<': return a < b ? 1 : 0;
                case '=': return a == b ? 1 : 0;
                case '>': return a > b ? 1 : 0;
                case '+': return a + b;
                case '-': return a - b;
                case '*': return a * b;
                case '/': return b == 0 ? 0 : a / b;
                case '%': return b == 0 ? 0 : a % b;
                case -DENIES: return b == 0 ? 1 : 0;
                case -TURNS: return -b;
                default: return 0;
            }
        }

        private void push(int v) {
            if (height >= 0 && height < STACK) {
                stack[height] = v;
                height++;
            }
        }

        private int pop() {
            if (height <= 0 || height > STACK) {
                return 0;
            }
            height--;
            return stack[height];
        }
    }

    /** The changes that are kept: done of them may be undone, those behind done again. */
    private static final class Changes {
        private static final int MOST = 40;

        final int[] numbers = new int[MOST];
        final int[] whats = new int[MOST];
        final int[] olds = new int[MOST];
        final int[] news = new int[MOST];
        int done = 0;
        int kept = 0;

        void note(int number, int what, int was, int is) {
            if (done >= MOST) {
                forgetOldest();
            }
            numbers[done] = number;
            whats[done] = what;
            olds[done] = was;
            news[done] = is;
            done++;
            kept = done;
        }

        private void forgetOldest() {
            System.arraycopy(numbers, 1, numbers, 0, MOST - 1);
            System.arraycopy(whats, 1, whats, 0, MOST - 1);
            System.arraycopy(olds, 1, olds, 0, MOST - 1);
            System.arraycopy(news, 1, news, 0, MOST - 1);
            done = MOST - 1;
        }

        /** The place of the change that is undone now; -1 if there is none. */
        int stepBack() {
            if (done <= 0) {
                return -1;
            }
            done--;
            return done;
        }

        /** The place of the change that is done again now; -1 if there is none. */
        int stepOn() {
            if (done >= kept) {
                return -1;
            }
            done++;
            return done - 1;
        }
    }

    /** What led() tells, and the image. */
    private static final class Deeds {
        final int[] led = new int[LEDS];
        private final int[] imageLed = new int[LEDS];
        private final int[] imageFiled = new int[CARDS];
        private int imageCards = 0;
        boolean imageKept = false;

        void keepImage(Cabinet cabinet) {
            System.arraycopy(led, 0, imageLed, 0, LEDS);
            System.arraycopy(cabinet.filed, 0, imageFiled, 0, CARDS);
            imageCards = cabinet.held;
            imageKept = true;
        }

        void layBack(Cabinet cabinet) {
            System.arraycopy(imageLed, 0, led, 0, LEDS);
            for (int c = 0; c < CARDS; c++) {
                cabinet.filed[c] = c < imageCards ? imageFiled[c] : VOID;
            }
        }
    }

    /** Prints of kinds, and the acts that they have from the kinds above them. */
    private static final class Prints {
        private static final int MOST = 50, KINDS = 8, TRACED = 24, DEEPEST = 30;
        private static final int INKS = 0, COUNTS = 1, FILES = 2, TELLS = 3, ACTS = 4;
        // By kind: the kind right above it.
        private static final int[] ABOVE = {-1, 0, 0, 2, 1, 3, 0, 4};
        // By act, then by kind: the number of the kind's own body of the act; 0 if it has none.
        private static final int[] OWN = {
            1, 20, 0, 0, 0, 0, 70, 0,
            10, 0, 30, 41, 0, 0, 0, 80,
            11, 0, 0, 40, 50, 0, 0, 0,
            2, 0, 0, 0, 0, 60, 0, 81};

        private final int[] kinds = new int[MOST];
        final int[] traceOf = new int[TRACED];
        int held = 0;
        int ran = 0;
        private int number = 0;
        private int ownKind = 0;

        boolean isKind(int kind) {
            return kind >= 0 && kind < KINDS;
        }

        boolean has(int body) {
            return body >= 0 && body < held;
        }

        int addBody(int kind) {
            if (held >= MOST) {
                return FULL;
            }
            kinds[held] = kind;
            held++;
            return held - 1;
        }

        int kindOf(int body) {
            return has(body) ? kinds[body] : -1;
        }

        boolean isUnder(int kind, int top) {
            int k = kind;
            for (int i = 0; i < KINDS && isKind(k); i++) {
                if (k == top) {
                    return true;
                }
                k = ABOVE[k];
            }
            return false;
        }

        int traced() {
            return Math.min(ran, TRACED);
        }

        int play(int body, int wanted, int x) {
            ran = 0;
            if (!has(body) || wanted < 0 || wanted >= ACTS) {
                return 0;
            }
            number = body;
            ownKind = kinds[body];
            return own(wanted, x, 0);
        }

        private int own(int wanted, int x, int depth) {
            return perform(wanted, ownKind, x, depth);
        }

        private int above(int wanted, int kind, int x, int depth) {
            return isKind(kind) ? perform(wanted, ABOVE[kind], x, depth) : 0;
        }

        /** Runs the body that a print of this kind has: its own, or that of the next kind above. */
        private int perform(int wanted, int from, int x, int depth) {
            int kind = from;
            for (int i = 0; i < KINDS && isKind(kind) && OWN[KINDS * wanted + kind] == 0; i++) {
                kind = ABOVE[kind];
            }
            if (!isKind(kind) || depth > DEEPEST) {
                return 0;
            }
            int bodyNumber = OWN[KINDS * wanted + kind];
            if (ran < TRACED) {
                traceOf[ran] = bodyNumber;
            }
            ran++;
            return outcome(bodyNumber, kind, x, depth + 1);
        }

        private int outcome(int bodyNumber, int kind, int x, int depth) {
            switch (bodyNumber) {
                case 1: return x + number;
                case 2: return own(COUNTS, x, depth) - own(FILES, 1, depth);
                case 10: return own(INKS, x, depth) * 2;
                case 11: return x ^ number;
                case 20: return above(INKS, kind, x, depth) + 3;
                case 30: return -above(COUNTS, kind, x, depth);
                case 40: return above(FILES, kind, x, depth) * 3;
                case 41: return above(COUNTS, kind, x + 1, depth);
                case 50: return above(FILES, kind, x, depth) - own(INKS, 2, depth);
                case 60: return above(TELLS, kind, x, depth) ^ 5;
                case 70: return above(INKS, kind, x, depth) * 2;
                case 80: return above(COUNTS, kind, x, depth) + own(FILES, 2, depth);
                case 81: return above(TELLS, kind, x, depth) - 1;
                default: return 0;
            }
        }
    }

    /** Six shelves, each with nothing, a print, or a row. */
    private static final class Shelves {
        static final int MOST = 60, ANY_SORT = -1;
        private static final int SHELVES = 6, ROW_SORTS = 5;
        private static final int INTS = 2, LONGS = 3;
        private static final int EMPTY = 0, PRINT = 1, ROW = 2;

        private final int[] holds = new int[SHELVES];
        private final int[] bodies = new int[SHELVES];
        private final int[] rowSorts = new int[SHELVES];
        private final int[] lengths = new int[SHELVES];
        final long[][] values = new long[SHELVES][MOST];

        boolean has(int shelf) {
            return shelf >= 0 && shelf < SHELVES;
        }

        boolean isRowSort(int sort) {
            return sort >= 0 && sort < ROW_SORTS;
        }

        boolean isEmpty(int shelf) {
            return !has(shelf) || holds[shelf] == EMPTY;
        }

        /** What is answered where a row of this sort is wanted and there is none; 0 if there is one. */
        int rowRefusal(int shelf, int sort) {
            if (!has(shelf)) {
                return BAD;
            }
            if (holds[shelf] == EMPTY) {
                return NOTHING_THERE;
            }
            boolean wanted = holds[shelf] == ROW && (sort == ANY_SORT || rowSorts[shelf] == sort);
            return wanted ? 0 : OTHER_KIND;
        }

        void keepBody(int shelf, int body) {
            if (has(shelf)) {
                holds[shelf] = body < 0 ? EMPTY : PRINT;
                bodies[shelf] = body;
            }
        }

        /** The print on a shelf; -1 if it holds none. */
        int bodyOn(int shelf) {
            return has(shelf) && holds[shelf] == PRINT ? bodies[shelf] : -1;
        }

        void keepRow(int shelf, int sort, int n) {
            if (!has(shelf)) {
                return;
            }
            holds[shelf] = ROW;
            rowSorts[shelf] = sort;
            lengths[shelf] = n;
            for (int i = 0; i < MOST; i++) {
                values[shelf][i] = 0;
            }
        }

        int sortOf(int shelf) {
            return has(shelf) ? rowSorts[shelf] : -1;
        }

        int lengthOf(int shelf) {
            return has(shelf) && holds[shelf] == ROW ? lengths[shelf] : 0;
        }

        long valueAt(int shelf, int i) {
            return i >= 0 && i < lengthOf(shelf) ? values[shelf][i] : 0;
        }

        void putLowest(int shelf, int i, long v) {
            if (i >= 0 && i < lengthOf(shelf)) {
                values[shelf][i] = lowestBits(rowSorts[shelf], v);
            }
        }

        private static long lowestBits(int sort, long v) {
            switch (sort) {
                case BYTES: return (byte) v;
                case SHORTS: return (short) v;
                case INTS: return (int) v;
                case LONGS: return v;
                default: return truth(v != 0);
            }
        }

        boolean isStretch(int shelf, int from, int n) {
            return from >= 0 && n >= 0 && from <= lengthOf(shelf) - n;
        }
    }
}
