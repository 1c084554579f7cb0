/** Numbers that look thrown but are the same in every run. */
final class Dice {
    private long state;

    Dice(long seed) {
        state = seed * 0x9E3779B97F4A7C15L + 1;
    }

    /** 0 .. n - 1. */
    int below(int n) {
        state = state * 6364136223846793005L + 1442695040888963407L;
        return (int) Math.floorMod(state >>> 33, (long) n);
    }

    int from(int least, int greatest) {
        return least + below(greatest - least + 1);
    }

    boolean once(int inSoMany) {
        return below(inSoMany) == 0;
    }
}
