/** Numbers that look thrown and are the same in every run. */
final class Dice {
    private long state;

    Dice(long seed) {
        state = seed;
    }

    int below(int bound) {
        state = state * 6364136223846793005L + 1442695040888963407L;
        return (int) ((state >>> 33) % bound);
    }

    /** Few kinds of cell and many echoes, so that there is something to match. */
    int[] source(int most) {
        int[] cells = new int[below(most + 1)];
        int kinds = 1 + below(5);
        int at = 0;
        while (at < cells.length) {
            if (at > 0 && below(2) == 0) {
                int distance = 1 + below(at);
                int n = 1 + below(9);
                for (int i = 0; i < n && at < cells.length; i++) {
                    cells[at] = cells[at - distance];
                    at++;
                }
            } else {
                cells[at] = below(kinds);
                at++;
            }
        }
        return cells;
    }
}
