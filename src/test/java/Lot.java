/** Numbers in a mixed order that is the same each time. */
final class Lot {
    private long state;

    Lot(long seed) {
        state = seed;
    }

    int upTo(int most) {
        return between(0, most);
    }

    int between(int least, int most) {
        state = state * 6364136223846793005L + 1442695040888963407L;
        return least + (int) Math.floorMod(state >>> 33, (long) most - least + 1);
    }

    int any() {
        state = state * 6364136223846793005L + 1442695040888963407L;
        return (int) (state >>> 32);
    }

    int squareFree() {
        int n = between(-60, 60);
        while (!Check.isSquareFree(n)) {
            n = between(-60, 60);
        }
        return n;
    }
}
