import java.util.ArrayList;
import java.util.List;
import java.util.TreeMap;
import java.util.TreeSet;

/**
 * Drawn cabinets, each asked everything of promises 8 to 34, against the document's words done the long way:
 * sets of drawers, all sets of fingers, all orders of points.
 */
final class WordsTest {
    private static final int[] WORTH = {16 * 32, 16, 8 * 32, 8, 4 * 32, 4, 2 * 32, 2, 32, 1};

    private final Draws draws;
    private final TenInDrawers x = new TenInDrawers();
    private final int cards;
    private final int near;
    private final int[][] sort;
    private final int[][] ridges;
    private final int[] filed;
    private final List<TreeSet<Integer>> drawersOf = new ArrayList<>();
    private final String call;

    public static void main(String[] args) {
        for (int seed = 0; seed < 400; seed++) {
            new WordsTest(seed).askAll();
        }
        points();
        Due.end("WordsTest");
    }

    private WordsTest(int seed) {
        draws = new Draws(seed);
        call = "seed " + seed + ": ";
        cards = seed < 13 ? seed : draws.between(0, 12);
        near = draws.of(0, 1, 1, 2, 9);
        int style = draws.below(4);
        int spread = draws.of(0, 2, 5, 30);
        sort = new int[cards][10];
        ridges = new int[cards][10];
        filed = new int[cards];
        for (int c = 0; c < cards; c++) {
            for (int f = 0; f < 10; f++) {
                boolean copied = c > 0 && draws.below(4) < style;
                sort[c][f] = copied ? sort[draws.below(c)][f] : style == 0 ? draws.below(6) : draws.of(0, 1, 1, 2, 3, 3, 3, 4, 5);
                ridges[c][f] = draws.between(0, spread);
            }
        }
        lay();
    }

    private void lay() {
        for (int c = 0; c < cards; c++) {
            x.row(0, 0, 20);
            for (int f = 0; f < 10; f++) {
                x.put(0, 2 * f, sort[c][f]);
                x.put(0, 2 * f + 1, ridges[c][f]);
            }
            Due.is(call + "cards", x.cards(0, 0, 1), 1);
            drawersOf.add(drawersBySorts(c));
            filed[c] = draws.below(3) == 0 ? -1 : draws.of(0, 1023, draws.below(1024), drawersOf.get(c).first());
            if (filed[c] >= 0) {
                x.file(c, filed[c]);
            }
        }
        x.mend(0, 2, near);
    }

    private TreeSet<Integer> drawersBySorts(int c) {
        TreeSet<Integer> all = new TreeSet<>();
        all.add(0);
        for (int f = 0; f < 10; f++) {
            TreeSet<Integer> more = new TreeSet<>();
            for (int d : all) {
                if (sort[c][f] >= 3) {
                    more.add(d + WORTH[f]);
                }
                if (sort[c][f] != 3) {
                    more.add(d);
                }
            }
            all = more;
        }
        return all;
    }

    private static boolean maySame(int s, int t) {
        for (int plain = 0; plain < 4; plain++) {
            if (mayBe(s, plain) && mayBe(t, plain)) {
                return true;
            }
        }
        return false;
    }

    private static boolean mayBe(int s, int plain) {
        return s == plain || s == 5 || s == 4 && (plain == 1 || plain == 3);
    }

    private boolean like(int s, int r, int c, int f) {
        return maySame(s, sort[c][f]) && Math.abs(r - ridges[c][f]) <= near;
    }

    private int much(int s, int r, int c, int f) {
        int v = (maySame(s, sort[c][f]) ? 10 : 0) - Math.abs(r - ridges[c][f]);
        return v < 0 ? 0 : v;
    }

    private void askAll() {
        drawers();
        filedOnes();
        twoCards();
        signs();
        for (int i = 0; i < 3; i++) {
            boolean drawn = cards > 0 && draws.below(3) > 0;
            int c = cards > 0 ? draws.below(cards) : 0;
            int f = draws.below(10);
            int s = drawn && sort[c][f] < 5 ? sort[c][f] : draws.below(5);
            int r = drawn ? ridges[c][f] : draws.below(31);
            glass(s, r);
            search(s, r);
        }
        clerk();
        drawn(draws.between(-100000, 100000), draws.between(1, 50));
    }

    private void drawers() {
        TreeMap<Integer, Integer> full = new TreeMap<>();
        for (int c = 0; c < cards; c++) {
            TreeSet<Integer> mine = drawersOf.get(c);
            Due.is(call + "drawer(0)", x.drawer(c, 0), mine.first());
            Due.is(call + "drawer(1)", x.drawer(c, 1), mine.last());
            Due.is(call + "drawer(2)", x.drawer(c, 2), mine.size());
            int d = draws.below(1024);
            Due.is(call + "may", x.may(c, d), mine.contains(d) ? 1 : 0);
            Due.is(call + "mended", x.mended(c, d, 0), leastMended(c, d));
            int bits = 0;
            for (int o = 0; o < cards; o++) {
                TreeSet<Integer> both = new TreeSet<>(mine);
                both.retainAll(drawersOf.get(o));
                bits |= o != c && !both.isEmpty() ? 1 << o : 0;
            }
            Due.is(call + "look", x.look(c, 1), bits);
            Due.is(call + "look", x.look(c, 0), Integer.bitCount(bits));
            for (int m : mine) {
                full.merge(m, 1, Integer::sum);
            }
        }
        int fullest = 0;
        for (int d : full.keySet()) {
            fullest = full.get(d) > full.getOrDefault(fullest, 0) ? d : fullest;
        }
        Due.is(call + "full(-1)", x.full(-1), fullest);
        Due.is(call + "full(-2)", x.full(-2), full.size());
        Due.is(call + "full(fullest)", x.full(fullest), full.getOrDefault(fullest, 0));
    }

    private int leastMended(int c, int d) {
        int least = 11;
        for (int m : drawersOf.get(c)) {
            least = Math.min(least, Integer.bitCount(m ^ d));
        }
        return least;
    }

    private void filedOnes() {
        int bits = 0;
        for (int c = 0; c < cards; c++) {
            TreeSet<Integer> mine = drawersOf.get(c);
            if (filed[c] < 0) {
                Due.is(call + "found", x.found(c), -2);
            } else {
                bits |= mine.contains(filed[c]) ? 0 : 1 << c;
                Due.is(call + "found", x.found(c), through(filed[c], mine));
            }
        }
        Due.is(call + "misfiled", x.misfiled(), bits);
    }

    private static int through(int from, TreeSet<Integer> wanted) {
        List<Integer> way = new ArrayList<>();
        way.add(from);
        for (int step = 1; step < 1024; step++) {
            way.add(from + step);
            way.add(from - step);
        }
        way.removeIf(d -> d < 0 || d > 1023);
        for (int i = 0; i < way.size(); i++) {
            if (wanted.contains(way.get(i))) {
                return i;
            }
        }
        return -1;
    }

    private void twoCards() {
        int pairs = 0;
        for (int a = cards - 1; a >= 0; a--) {
            int nearest = -2;
            int most = -1;
            for (int b = cards - 1; b >= 0; b--) {
                int fingers = 0;
                int sum = 0;
                for (int f = 0; f < 10; f++) {
                    fingers += like(sort[a][f], ridges[a][f], b, f) ? 1 : 0;
                    sum += much(sort[a][f], ridges[a][f], b, f);
                }
                if (a != b && sum >= most) {
                    most = sum;
                    nearest = b;
                }
                if (a < b && fingers == 10) {
                    pairs++;
                }
                if (a == (b + 1) % 12) {
                    Due.is(call + "same(0)", x.same(100 * a + b, 0), fingers);
                    Due.is(call + "same(1)", x.same(100 * a + b, 1), sum);
                }
            }
            Due.is(call + "nearest", x.nearest(a), nearest);
        }
        Due.is(call + "oneMan(0)", x.oneMan(0), pairs);
        Due.is(call + "oneMan(1)", x.oneMan(1), firstOfOneMan());
    }

    private int firstOfOneMan() {
        for (int a = 0; a < cards; a++) {
            for (int b = a + 1; b < cards; b++) {
                boolean all = true;
                for (int f = 0; f < 10; f++) {
                    all &= like(sort[a][f], ridges[a][f], b, f);
                }
                if (all) {
                    return 20 * a + b;
                }
            }
        }
        return -2;
    }

    private void signs() {
        int bestSet = -2;
        for (int n = 0; n <= 10 && bestSet < 0; n++) {
            for (int set = 1023; set >= 0; set--) {
                bestSet = Integer.bitCount(set) == n && tellsAll(set) ? set : bestSet;
            }
        }
        Due.is(call + "signs(0)", x.signs(0), bestSet < 0 ? -2 : Integer.bitCount(bestSet));
        Due.is(call + "signs(1)", x.signs(1), bestSet);
        int first = 0;
        int least = 99;
        for (int f = 0; f < 10; f++) {
            int whorls = 0;
            for (int c = 0; c < cards; c++) {
                whorls += sort[c][f] == 3 ? 1 : 0;
            }
            int greater = Math.max(whorls, cards - whorls);
            if (greater < least) {
                least = greater;
                first = f;
            }
        }
        Due.is(call + "sign(0)", x.sign(0), first);
        Due.is(call + "sign(1)", x.sign(1), least);
    }

    private boolean tellsAll(int set) {
        for (int a = 0; a < cards; a++) {
            for (int b = 0; b < a; b++) {
                boolean told = false;
                for (int f = 0; f < 10; f++) {
                    told |= (set >> f & 1) != 0 && !maySame(sort[a][f], sort[b][f]);
                }
                if (!told) {
                    return false;
                }
            }
        }
        return true;
    }

    private void glass(int s, int r) {
        int sr = 100 * s + r;
        int bits = 0;
        int fingers = 0;
        int best = -2;
        int most = -1;
        long top = 0;
        long bottom = 0;
        TreeSet<Integer> through = new TreeSet<>();
        List<Integer> line = new ArrayList<>();
        int[] weight = new int[cards];
        for (int c = 0; c < cards; c++) {
            for (int f = 0; f < 10; f++) {
                if (like(s, r, c, f)) {
                    bits |= 1 << c;
                    fingers++;
                    weight[c] = Math.max(weight[c], much(s, r, c, f));
                    if (much(s, r, c, f) > most) {
                        most = much(s, r, c, f);
                        best = 20 * c + f;
                    }
                    through.addAll(drawersOf.get(c));
                }
            }
            if (weight[c] > 0) {
                line.add(c);
            }
        }
        line.sort((a, b) -> weight[a] != weight[b] ? weight[b] - weight[a] : a - b);
        Due.is(call + "whose(-1)", x.whose(sr, -1), bits);
        Due.is(call + "whose(-2)", x.whose(sr, -2), fingers);
        Due.is(call + "best", x.best(sr), best);
        Due.is(call + "drawers", x.drawers(sr), through.size());
        for (int i = 0; i < line.size(); i++) {
            Due.is(call + "order(" + i + ")", x.order(sr, i), line.get(i));
            top += (i + 1L) * weight[line.get(i)];
            bottom += weight[line.get(i)];
        }
        Due.is(call + "order(behind)", x.order(sr, line.size()), -2);
        long divisor = 1;
        for (long d = 2; d <= bottom; d++) {
            divisor = top % d == 0 && bottom % d == 0 ? d : divisor;
        }
        Due.is(call + "order(-2)", x.order(sr, -2), line.isEmpty() ? -2 : top / divisor);
        Due.is(call + "order(-1)", x.order(sr, -1), line.isEmpty() ? -2 : bottom / divisor);
    }

    private void search(int s, int r) {
        int looked = x.led(3);
        int found = -2;
        for (int d = 0; d < 1024 && found < 0; d++) {
            for (int c = 0; c < cards && found < 0; c++) {
                if (filed[c] == d) {
                    looked++;
                    for (int f = 0; f < 10; f++) {
                        found = like(s, r, c, f) ? c : found;
                    }
                }
            }
        }
        Due.is(call + "search", x.search(100 * s + r), found);
        Due.is(call + "led(3)", x.led(3), looked);
    }

    private void clerk() {
        int twos = draws.below(4);
        int other = draws.below(12);
        x.row(1, 1, 2 * twos);
        int[] card = new int[twos];
        int[] d = new int[twos];
        for (int i = 0; i < twos; i++) {
            card[i] = cards > 0 && draws.below(20) > 0 ? draws.below(cards) : draws.between(-1, 12);
            d[i] = card[i] >= 0 && card[i] < cards ? drawersOf.get(card[i]).last() : 0;
            d[i] ^= other < 10 ? WORTH[other] : 0;
            x.put(1, 2 * i, card[i]);
            x.put(1, 2 * i + 1, d[i]);
        }
        int wrong = -2;
        for (int i = twos - 1; i >= 0; i--) {
            wrong = so(card[i], d[i]) ? wrong : i;
        }
        Due.is(call + "judge", x.judge(1), wrong);
        int by = -2;
        for (int f = 9; f >= 0; f--) {
            boolean all = true;
            for (int i = 0; i < twos; i++) {
                all &= so(card[i], d[i] ^ WORTH[f]);
            }
            by = all ? f : by;
        }
        Due.is(call + "clerk", x.clerk(1), wrong == -2 ? -3 : by);
    }

    private boolean so(int card, int d) {
        return card >= 0 && card < cards && drawersOf.get(card).contains(d);
    }

    private void drawn(int seed, int n) {
        int z = seed;
        int right = 0;
        int all = 0;
        for (int i = 0; i < n && cards > 0; i++) {
            z = z * 1103515245 + 12345;
            int card = (z >>> 8) % cards;
            int f = (z >>> 16) % 10;
            int s = sort[card][f] == 5 ? 0 : sort[card][f];
            int most = -1;
            int best = -1;
            for (int c = 0; c < cards; c++) {
                boolean may = false;
                for (int g = 0; g < 10; g++) {
                    if (like(s, ridges[card][f], c, g)) {
                        may = true;
                        best = much(s, ridges[card][f], c, g) > most ? c : best;
                        most = Math.max(most, much(s, ridges[card][f], c, g));
                    }
                }
                all += may ? 1 : 0;
            }
            right += best == card ? 1 : 0;
        }
        Due.is(call + "drawn(0)", x.drawn(seed, n, 0), cards > 0 ? right : -5);
        Due.is(call + "drawn(1)", x.drawn(seed, n, 1), cards > 0 ? all : -5);
    }

    /** All ways in which points may be alike, counted one point after the other. */
    private static void points() {
        TenInDrawers y = new TenInDrawers();
        for (int p = 1; p <= 12; p++) {
            for (int c = 2; c <= 9; c++) {
                long[] ways = new long[14];
                ways[0] = 1;
                long all = 1;
                for (int i = 0; i < p; i++) {
                    all *= c;
                    for (int a = p; a >= 0; a--) {
                        ways[a] = ways[a] * (c - 1) + (a > 0 ? ways[a - 1] : 0);
                    }
                }
                int a = (p * 7 + c) % (p + 1);
                long top = y.chance(100 * p + c, a, 0);
                long bottom = y.chance(100 * p + c, a, 1);
                Due.is("chance " + p + " " + c + " " + a, top * (all / bottom), ways[a]);
                Due.is("chance, below the line", all % bottom, 0);
                for (long prime : new long[] {2, 3, 5, 7}) {
                    Due.is("chance, lowest terms", top % prime == 0 && bottom % prime == 0 ? 1 : 0, 0);
                }
                int n = new int[] {1, 2, 10, 999, 9999}[(p + c) % 5];
                int enough = -2;
                long more = 0;
                for (int b = p; b >= 0; b--) {
                    more += ways[b];
                    enough = n * more < all ? b : enough;
                }
                Due.is("enough " + p + " " + c + " " + n, y.enough(100 * p + c, n), enough);
            }
        }
    }
}
