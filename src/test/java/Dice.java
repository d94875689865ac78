/** Numbers that look thrown, but are the same in every run of the tests. */
final class Dice {
    private long state;

    Dice(long seed) {
        state = seed * 0x9E3779B97F4A7C15L + 0x1234567L;
    }

    /** From 0 to one less than the number of sides. */
    int roll(int sides) {
        state = state * 6364136223846793005L + 1442695040888963407L;
        return (int) Long.remainderUnsigned(state >>> 33, sides);
    }

    boolean oneIn(int times) {
        return roll(times) == 0;
    }

    <T> T of(T[] all) {
        return all[roll(all.length)];
    }
}
