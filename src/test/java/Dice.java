/** Made-up numbers that are the same in every run. */
final class Dice {
    private long seed;

    Dice(long seed) {
        this.seed = seed;
    }

    int below(int n) {
        seed = seed * 6364136223846793005L + 1442695040888963407L;
        return (int) ((seed >>> 33) % n);
    }

    int between(int least, int most) {
        return least + below(most - least + 1);
    }

    boolean chance(int percent) {
        return below(100) < percent;
    }
}
