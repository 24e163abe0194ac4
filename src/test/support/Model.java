import java.util.Arrays;

/** The document's words over whole matrices, with sums kept exact until they are wrapped. */
final class Model {
    private static final int NONE = -1;

    private final int[][][] slots = new int[5][6][6];

    private interface Entry {
        long of(int i, int j);
    }

    private int make(int t, Entry entry) {
        int[][] made = new int[6][6];
        for (int i = 0; i < 6; i++) {
            for (int j = 0; j < 6; j++) {
                made[i][j] = (int) entry.of(i, j);
            }
        }
        slots[t] = made;
        return count(t);
    }

    private static boolean areSlots(int... numbers) {
        for (int number : numbers) {
            if (number < 0 || number > 4) {
                return false;
            }
        }
        return true;
    }

    private static boolean areLines(int... numbers) {
        for (int number : numbers) {
            if (number < 0 || number > 5) {
                return false;
            }
        }
        return true;
    }

    int[] snapshot() {
        int[] held = new int[180];
        for (int k = 0; k < 180; k++) {
            held[k] = slots[k / 36][k / 6 % 6][k % 6];
        }
        return held;
    }

    boolean put(int s, int i, int j, int v) {
        boolean taken = areSlots(s) && areLines(i, j);
        if (taken) {
            slots[s][i][j] = v;
        }
        return taken;
    }

    int add(int t, int a, int b) {
        return areSlots(t, a, b) ? make(t, (i, j) -> (long) slots[a][i][j] + slots[b][i][j]) : NONE;
    }

    int entrywise(int t, int a, int b) {
        return areSlots(t, a, b) ? make(t, (i, j) -> (long) slots[a][i][j] * slots[b][i][j]) : NONE;
    }

    private long cell(int a, int b, int i, int j) {
        long total = 0;
        for (int k = 0; k < 6; k++) {
            total += (long) slots[a][i][k] * slots[b][k][j];
        }
        return total;
    }

    int product(int t, int a, int b) {
        return areSlots(t, a, b) ? make(t, (i, j) -> cell(a, b, i, j)) : NONE;
    }

    int masked(int t, int abc) {
        for (int n = 0; n < 125; n++) {
            int a = n % 5;
            int b = n / 5 % 5;
            int c = n / 25;
            if (a + 8 * b + 64 * c == abc && areSlots(t)) {
                return make(t, (i, j) -> slots[c][i][j] == 0 ? 0 : cell(a, b, i, j));
            }
        }
        return NONE;
    }

    int transpose(int t, int a) {
        return areSlots(t, a) ? make(t, (i, j) -> slots[a][j][i]) : NONE;
    }

    int scale(int t, int a, int k) {
        return areSlots(t, a) ? make(t, (i, j) -> (long) slots[a][i][j] * k) : NONE;
    }

    int select(int t, int a, int packed) {
        if (!areSlots(t, a) || packed < 0 || packed > 4095) {
            return NONE;
        }
        int rows = packed % 64;
        int columns = packed / 64;
        return make(t, (i, j) -> (rows & 1 << i) != 0 && (columns & 1 << j) != 0 ? slots[a][i][j] : 0);
    }

    int at(int s, int i, int j) {
        return areSlots(s) && areLines(i, j) ? slots[s][i][j] : 0;
    }

    int count(int s) {
        if (!areSlots(s)) {
            return NONE;
        }
        int found = 0;
        for (int[] row : slots[s]) {
            for (int v : row) {
                found += v == 0 ? 0 : 1;
            }
        }
        return found;
    }

    int next(int s, int i, int j) {
        if (!areSlots(s) || !areLines(i)) {
            return NONE;
        }
        int least = NONE;
        for (int column = 5; column >= j && column >= 0; column--) {
            least = slots[s][i][column] == 0 ? least : column;
        }
        return least;
    }

    int rowsProduct(int a, int i, int b, int j) {
        long total = 0;
        for (int k = 0; k < 6; k++) {
            total += (long) at(a, i, k) * at(b, j, k);
        }
        return (int) total;
    }

    int sum(int s, int what, int i) {
        long total = 0;
        for (int k = 0; k < 6; k++) {
            total += switch (what) {
                case 0 -> at(s, i, k);
                case 1 -> at(s, k, i);
                case 2 -> at(s, k, k);
                default -> 0;
            };
        }
        return (int) total;
    }

    boolean same(int a, int b) {
        return areSlots(a, b) && Arrays.deepEquals(slots[a], slots[b]);
    }

    boolean symmetric(int s) {
        boolean alike = areSlots(s);
        for (int k = 0; k < 36; k++) {
            alike = alike && slots[s][k / 6][k % 6] == slots[s][k % 6][k / 6];
        }
        return alike;
    }
}
