/** Numbers that look random and are the same in every run. */
final class Numbers {
    private long state;

    Numbers(long seed) {
        state = seed * 0x9E3779B97F4A7C15L + 1;
    }

    /** A number from low to high. */
    int between(int low, int high) {
        state = state * 6364136223846793005L + 1442695040888963407L;
        long mixed = (state ^ (state >>> 29)) >>> 17;
        return (int) (low + mixed % ((long) high - low + 1));
    }

    boolean once(int in) {
        return between(1, in) == 1;
    }
}
