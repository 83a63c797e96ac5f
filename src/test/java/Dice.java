/** Numbers that look thrown, always the same ones for the same start. */
final class Dice {
    private long state;

    Dice(long start) {
        state = start * 0x9E3779B97F4A7C15L + 1;
    }

    int below(int bound) {
        state = state * 6364136223846793005L + 1442695040888963407L;
        return (int) ((state >>> 33) % bound);
    }

    int from(int low, int high) {
        return low + below(high - low + 1);
    }

    boolean once(int in) {
        return below(in) == 0;
    }
}
