/**
 * Long runs of mixed calls, each answer held against a plain model.
 * The calls come from a fixed sequence of numbers, so that every run of the test is the same.
 */
public final class RunTests {
    private static final int RUNS = 2000;
    private static final int CALLS = 512;
    private static final int NONE = -1;
    private static final int[] VALUES = {
        0, 0, 0, 0, 1, -1, 2, -3, 5, 7, 65536, -65536, 46341, Integer.MAX_VALUE, Integer.MIN_VALUE
    };

    private static long state = 20261115L;
    private static int wrong = 0;

    public static void main(String[] args) {
        for (int run = 0; run < RUNS && wrong < 20; run++) {
            oneRun(run);
        }
        System.out.println(wrong == 0 ? "all answers are as due" : wrong + " answers are not as due");
        if (wrong != 0) {
            System.exit(1);
        }
    }

    private static void oneRun(int run) {
        SparseKernels x = new SparseKernels();
        Model model = new Model();
        for (int n = 0; n < CALLS; n++) {
            int call = draw(22);
            int p = slot();
            int q = slot();
            int r = slot();
            int i = line();
            int j = line();
            int v = VALUES[draw(VALUES.length)];
            int abc = draw(8) == 0 ? draw(700) - 200 : p + 8 * q + 64 * r;
            int packed = draw(8) == 0 ? draw(9000) - 2000 : draw(4096);
            int what = draw(5) - 1;
            long got;
            long want;
            switch (call) {
                case 0 -> { got = x.add(p, q, r); want = model.add(p, q, r); }
                case 1 -> { got = x.entrywise(p, q, r); want = model.entrywise(p, q, r); }
                case 2 -> { got = x.product(p, q, r); want = model.product(p, q, r); }
                case 3 -> { got = x.masked(p, abc); want = model.masked(p, abc); }
                case 4 -> { got = x.transpose(p, q); want = model.transpose(p, q); }
                case 5 -> { got = x.scale(p, q, v); want = model.scale(p, q, v); }
                case 6 -> { got = x.select(p, q, packed); want = model.select(p, q, packed); }
                case 7 -> { got = x.at(p, i, j); want = model.at(p, i, j); }
                case 8 -> { got = x.count(p); want = model.count(p); }
                case 9 -> { got = x.next(p, i, j); want = model.next(p, i, j); }
                case 10 -> { got = x.rowsProduct(p, i, q, j); want = model.rowsProduct(p, i, q, j); }
                case 11 -> { got = x.sum(p, what, i); want = model.sum(p, what, i); }
                case 12 -> { got = x.same(p, q) ? 1 : 0; want = model.same(p, q) ? 1 : 0; }
                case 13 -> { got = x.symmetric(p) ? 1 : 0; want = model.symmetric(p) ? 1 : 0; }
                default -> { got = x.put(p, i, j, v) ? 1 : 0; want = model.put(p, i, j, v) ? 1 : 0; }
            }
            if (got != want) {
                wrong++;
                System.out.println("run " + run + ", call " + n + " of kind " + call
                        + " answered " + got + ", due is " + want);
                return;
            }
        }
    }

    private static int draw(int bound) {
        state = state * 6364136223846793005L + 1442695040888963407L;
        return (int) ((state >>> 33) % bound);
    }

    /** Mostly a slot, now and then the number beside the first or the last. */
    private static int slot() {
        return draw(24) == 0 ? draw(2) * 6 - 1 : draw(5);
    }

    private static int line() {
        return draw(24) == 0 ? draw(2) * 7 - 1 : draw(6);
    }

    /** The document's words over whole matrices, with sums kept exact until they are wrapped. */
    private static final class Model {
        private final int[][][] slots = new int[5][6][6];

        private interface Entry {
            long of(int i, int j);
        }

        private int make(int t, Entry entry) {
            int[][] made = new int[6][6];
            for (int i = 0; i < 6; i++) {
                for (int j = 0; j < 6; j++) {
                    made[i][j] = (int) entry.of(i, j);
                }
            }
            slots[t] = made;
            return count(t);
        }

        private static boolean areSlots(int... numbers) {
            for (int number : numbers) {
                if (number < 0 || number > 4) {
                    return false;
                }
            }
            return true;
        }

        private static boolean areLines(int... numbers) {
            for (int number : numbers) {
                if (number < 0 || number > 5) {
                    return false;
                }
            }
            return true;
        }

        boolean put(int s, int i, int j, int v) {
            boolean taken = areSlots(s) && areLines(i, j);
            if (taken) {
                slots[s][i][j] = v;
            }
            return taken;
        }

        int add(int t, int a, int b) {
            return areSlots(t, a, b) ? make(t, (i, j) -> (long) slots[a][i][j] + slots[b][i][j]) : NONE;
        }

        int entrywise(int t, int a, int b) {
            return areSlots(t, a, b) ? make(t, (i, j) -> (long) slots[a][i][j] * slots[b][i][j]) : NONE;
        }

        private long cell(int a, int b, int i, int j) {
            long total = 0;
            for (int k = 0; k < 6; k++) {
                total += (long) slots[a][i][k] * slots[b][k][j];
            }
            return total;
        }

        int product(int t, int a, int b) {
            return areSlots(t, a, b) ? make(t, (i, j) -> cell(a, b, i, j)) : NONE;
        }

        int masked(int t, int abc) {
            for (int n = 0; n < 125; n++) {
                int a = n % 5;
                int b = n / 5 % 5;
                int c = n / 25;
                if (a + 8 * b + 64 * c == abc && areSlots(t)) {
                    return make(t, (i, j) -> slots[c][i][j] == 0 ? 0 : cell(a, b, i, j));
                }
            }
            return NONE;
        }

        int transpose(int t, int a) {
            return areSlots(t, a) ? make(t, (i, j) -> slots[a][j][i]) : NONE;
        }

        int scale(int t, int a, int k) {
            return areSlots(t, a) ? make(t, (i, j) -> (long) slots[a][i][j] * k) : NONE;
        }

        int select(int t, int a, int packed) {
            if (!areSlots(t, a) || packed < 0 || packed > 4095) {
                return NONE;
            }
            int rows = packed % 64;
            int columns = packed / 64;
            return make(t, (i, j) -> (rows & 1 << i) != 0 && (columns & 1 << j) != 0 ? slots[a][i][j] : 0);
        }

        int at(int s, int i, int j) {
            return areSlots(s) && areLines(i, j) ? slots[s][i][j] : 0;
        }

        int count(int s) {
            if (!areSlots(s)) {
                return NONE;
            }
            int found = 0;
            for (int[] row : slots[s]) {
                for (int v : row) {
                    found += v == 0 ? 0 : 1;
                }
            }
            return found;
        }

        int next(int s, int i, int j) {
            if (!areSlots(s) || !areLines(i)) {
                return NONE;
            }
            int least = NONE;
            for (int column = 5; column >= j && column >= 0; column--) {
                least = slots[s][i][column] == 0 ? least : column;
            }
            return least;
        }

        int rowsProduct(int a, int i, int b, int j) {
            long total = 0;
            for (int k = 0; k < 6; k++) {
                total += (long) at(a, i, k) * at(b, j, k);
            }
            return (int) total;
        }

        int sum(int s, int what, int i) {
            long total = 0;
            for (int k = 0; k < 6; k++) {
                total += switch (what) {
                    case 0 -> at(s, i, k);
                    case 1 -> at(s, k, i);
                    case 2 -> at(s, k, k);
                    default -> 0;
                };
            }
            return (int) total;
        }

        boolean same(int a, int b) {
            return areSlots(a, b) && java.util.Arrays.deepEquals(slots[a], slots[b]);
        }

        boolean symmetric(int s) {
            boolean alike = areSlots(s);
            for (int k = 0; k < 36; k++) {
                alike = alike && slots[s][k / 6][k % 6] == slots[s][k % 6][k / 6];
            }
            return alike;
        }
    }
}
