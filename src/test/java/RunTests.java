/**
 * Long runs of mixed calls, each answer held against a plain model.
 * The calls come from a fixed sequence of numbers, so that every run of the test is the same.
 */
public final class RunTests extends Checks {
    private static final int RUNS = 2000;
    private static final int CALLS = 512;
    private static final int[] VALUES = {
        0, 0, 0, 0, 1, -1, 2, -3, 5, 7, 65536, -65536, 46341, MAX, MIN
    };

    private static long state = 20261115L;

    public static void main(String[] args) {
        for (int run = 0; run < RUNS && wrongSoFar() < 20; run++) {
            oneRun(run);
        }
        finish();
    }

    private static void oneRun(int run) {
        SparseKernels x = new SparseKernels();
        Model model = new Model();
        for (int n = 0; n < CALLS; n++) {
            int call = draw(22);
            int p = slot();
            int q = slot();
            int r = slot();
            int i = line();
            int j = line();
            int v = VALUES[draw(VALUES.length)];
            int abc = draw(8) == 0 ? draw(700) - 200 : p + 8 * q + 64 * r;
            int packed = draw(8) == 0 ? draw(9000) - 2000 : draw(4096);
            int what = draw(5) - 1;
            long got;
            long want;
            switch (call) {
                case 0 -> { got = x.add(p, q, r); want = model.add(p, q, r); }
                case 1 -> { got = x.entrywise(p, q, r); want = model.entrywise(p, q, r); }
                case 2 -> { got = x.product(p, q, r); want = model.product(p, q, r); }
                case 3 -> { got = x.masked(p, abc); want = model.masked(p, abc); }
                case 4 -> { got = x.transpose(p, q); want = model.transpose(p, q); }
                case 5 -> { got = x.scale(p, q, v); want = model.scale(p, q, v); }
                case 6 -> { got = x.select(p, q, packed); want = model.select(p, q, packed); }
                case 7 -> { got = x.at(p, i, j); want = model.at(p, i, j); }
                case 8 -> { got = x.count(p); want = model.count(p); }
                case 9 -> { got = x.next(p, i, j); want = model.next(p, i, j); }
                case 10 -> { got = x.rowsProduct(p, i, q, j); want = model.rowsProduct(p, i, q, j); }
                case 11 -> { got = x.sum(p, what, i); want = model.sum(p, what, i); }
                case 12 -> { got = x.same(p, q) ? 1 : 0; want = model.same(p, q) ? 1 : 0; }
                case 13 -> { got = x.symmetric(p) ? 1 : 0; want = model.symmetric(p) ? 1 : 0; }
                default -> { got = x.put(p, i, j, v) ? 1 : 0; want = model.put(p, i, j, v) ? 1 : 0; }
            }
            due("run " + run + ", call " + n + " of kind " + call, got, want);
            if (got != want) {
                return;
            }
        }
    }

    private static int draw(int bound) {
        state = state * 6364136223846793005L + 1442695040888963407L;
        return (int) ((state >>> 33) % bound);
    }

    /** Mostly a slot, now and then the number beside the first or the last. */
    private static int slot() {
        return draw(24) == 0 ? draw(2) * 6 - 1 : draw(5);
    }

    private static int line() {
        return draw(24) == 0 ? draw(2) * 7 - 1 : draw(6);
    }
}
