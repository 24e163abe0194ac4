import java.util.Arrays;

/** What the tests have in common: how an answer is held against the one that is due. */
abstract class Checks {
    protected static final int NONE = -1;
    protected static final int MIN = Integer.MIN_VALUE;
    protected static final int MAX = Integer.MAX_VALUE;

    private static int wrong = 0;

    protected static int wrongSoFar() {
        return wrong;
    }

    protected static void finish() {
        System.out.println(wrong == 0 ? "all answers are as due" : wrong + " answers are not as due");
        if (wrong != 0) {
            System.exit(1);
        }
    }

    protected static void due(String call, long got, long want) {
        if (got != want) {
            tell(call, "" + got, "" + want);
        }
    }

    protected static void due(String call, boolean got, boolean want) {
        if (got != want) {
            tell(call, "" + got, "" + want);
        }
    }

    protected static void due(String call, int[] got, int[] want) {
        if (!Arrays.equals(got, want)) {
            tell(call, Arrays.toString(got), Arrays.toString(want));
        }
    }

    protected static void due(String call, Object got, Object want) {
        if (!got.equals(want)) {
            tell(call, got.toString(), want.toString());
        }
    }

    protected static int flag(boolean answer) {
        return answer ? 1 : 0;
    }

    private static void tell(String call, String got, String want) {
        wrong++;
        System.out.println(call + " answered " + got + ", due is " + want);
    }

    /** Sparse slots, no two alike, with entries of both signs. */
    protected static int[] filledCells() {
        int[] held = new int[180];
        for (int k = 0; k < 180; k++) {
            held[k] = k * 7919 % 101 % 3 == 0 ? k * k % 47 - 23 : 0;
        }
        return held;
    }

    /** Every cell holds another number, none of them 0. */
    protected static int[] fullCells() {
        int[] held = new int[180];
        for (int k = 0; k < 180; k++) {
            held[k] = k + 1;
        }
        return held;
    }

    protected static SparseKernels filled() {
        return holding(filledCells());
    }

    protected static SparseKernels full() {
        return holding(fullCells());
    }

    protected static SparseKernels holding(int[] cells) {
        SparseKernels x = new SparseKernels();
        for (int s = 0; s < 5; s++) {
            fill(x, s, slot(cells, s));
        }
        return x;
    }

    /** Puts no 0, so that an object's 512 calls go further. */
    protected static void fill(SparseKernels x, int s, int[] matrix) {
        for (int k = 0; k < 36; k++) {
            if (matrix[k] != 0) {
                x.put(s, k / 6, k % 6, matrix[k]);
            }
        }
    }

    protected static int[] slot(int[] cells, int s) {
        return Arrays.copyOfRange(cells, s * 36, s * 36 + 36);
    }

    protected static int[] slot(SparseKernels x, int s) {
        int[] held = new int[36];
        for (int k = 0; k < 36; k++) {
            held[k] = x.at(s, k / 6, k % 6);
        }
        return held;
    }

    protected static int[] snapshot(SparseKernels x) {
        int[] held = new int[180];
        for (int k = 0; k < 180; k++) {
            held[k] = x.at(k / 36, k / 6 % 6, k % 6);
        }
        return held;
    }

    protected static int[] plainProduct(int[] a, int[] b) {
        int[] made = new int[36];
        for (int n = 0; n < 216; n++) {
            int i = n / 36;
            int j = n / 6 % 6;
            int k = n % 6;
            made[i * 6 + j] += a[i * 6 + k] * b[k * 6 + j];
        }
        return made;
    }

    protected static int nonZero(int[] matrix) {
        return (int) Arrays.stream(matrix).filter(v -> v != 0).count();
    }
}
