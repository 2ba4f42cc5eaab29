/** Numbers that look thrown, but are the same each time. */
final class Draws {
    private long state;

    Draws(long seed) {
        state = seed * 2862933555777941757L + 3037000493L;
    }

    int below(int n) {
        state = state * 6364136223846793005L + 1442695040888963407L;
        return (int) ((state >>> 33) % n);
    }

    int from(int low, int high) {
        return low + below(high - low + 1);
    }

    int any(int... of) {
        return of[below(of.length)];
    }
}
