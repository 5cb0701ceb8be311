/** Draws for tests: the same ones for the same seed. */
final class Draws {
    private long z;

    Draws(long seed) {
        z = seed * 2862933555777941757L + 3037000493L;
    }

    int below(int n) {
        z = z * 6364136223846793005L + 1442695040888963407L;
        return (int) ((z >>> 33) % n);
    }

    int between(int least, int most) {
        return least + below(most - least + 1);
    }

    int of(int... choices) {
        return choices[below(choices.length)];
    }
}
