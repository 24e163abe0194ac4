/** Calculates with small matrices most of whose entries are 0. */
public final class SparseKernels {
    public static final int NONE = -1;

    private static final int SLOTS = 5;
    private static final int SIZE = 6;
    private static final int AREA = 36;
    private static final int CELLS = 180;

    private static final int ROW_SUM = 0;
    private static final int COLUMN_SUM = 1;
    private static final int DIAGONAL_SUM = 2;

    private static final int PACKED_LIMIT = 4096;

    /** Entry (i, j) of slot s stands at s * AREA + i * SIZE + j. */
    private final int[] cells = new int[CELLS];

    /** A matrix is made here first, because slot t may be one of those still being read. */
    private final int[] made = new int[AREA];

    public SparseKernels() {
    }

    public boolean put(int s, int i, int j, int v) {
        if (!isEntry(s, i, j)) {
            return false;
        }
        cells[s * AREA + i * SIZE + j] = v;
        return true;
    }

    public int add(int t, int a, int b) {
        if (!isSlot(t) || !isSlot(a) || !isSlot(b)) {
            return NONE;
        }
        for (int k = 0; k < AREA; k++) {
            made[k] = cells[a * AREA + k] + cells[b * AREA + k];
        }
        return storeMade(t);
    }

    public int entrywise(int t, int a, int b) {
        if (!isSlot(t) || !isSlot(a) || !isSlot(b)) {
            return NONE;
        }
        for (int k = 0; k < AREA; k++) {
            made[k] = cells[a * AREA + k] * cells[b * AREA + k];
        }
        return storeMade(t);
    }

    public int product(int t, int a, int b) {
        if (!isSlot(t) || !isSlot(a) || !isSlot(b)) {
            return NONE;
        }
        makeProduct(a, b);
        return storeMade(t);
    }

    public int masked(int t, int abc) {
        int a = abc & 7;
        int b = (abc >> 3) & 7;
        // Not cut to three bits: what is too great or negative must show as no slot.
        int c = abc >> 6;
        if (!isSlot(t) || !isSlot(a) || !isSlot(b) || !isSlot(c)) {
            return NONE;
        }
        makeProduct(a, b);
        for (int k = 0; k < AREA; k++) {
            if (cells[c * AREA + k] == 0) {
                made[k] = 0;
            }
        }
        return storeMade(t);
    }

    public int transpose(int t, int a) {
        if (!isSlot(t) || !isSlot(a)) {
            return NONE;
        }
        for (int i = 0; i < SIZE; i++) {
            for (int j = 0; j < SIZE; j++) {
                made[i * SIZE + j] = cells[a * AREA + j * SIZE + i];
            }
        }
        return storeMade(t);
    }

    public int scale(int t, int a, int k) {
        if (!isSlot(t) || !isSlot(a)) {
            return NONE;
        }
        for (int n = 0; n < AREA; n++) {
            made[n] = cells[a * AREA + n] * k;
        }
        return storeMade(t);
    }

    public int select(int t, int a, int packed) {
        if (!isSlot(t) || !isSlot(a) || packed < 0 || packed >= PACKED_LIMIT) {
            return NONE;
        }
        int rows = packed & 63;
        int columns = packed >> 6;
        for (int i = 0; i < SIZE; i++) {
            for (int j = 0; j < SIZE; j++) {
                boolean stays = ((rows >> i) & (columns >> j) & 1) == 1;
                made[i * SIZE + j] = stays ? cells[a * AREA + i * SIZE + j] : 0;
            }
        }
        return storeMade(t);
    }

    public int at(int s, int i, int j) {
        if (!isEntry(s, i, j)) {
            return 0;
        }
        return cells[s * AREA + i * SIZE + j];
    }

    public int count(int s) {
        if (!isSlot(s)) {
            return NONE;
        }
        return countNonZero(s);
    }

    public int next(int s, int i, int j) {
        if (!isSlot(s) || !isLine(i)) {
            return NONE;
        }
        // The document sets no range for j: from a negative j on, every column is looked at.
        for (int column = 0; column < SIZE; column++) {
            if (column >= j && cells[s * AREA + i * SIZE + column] != 0) {
                return column;
            }
        }
        return NONE;
    }

    public int rowsProduct(int a, int i, int b, int j) {
        if (!isSlot(a) || !isLine(i) || !isSlot(b) || !isLine(j)) {
            return 0;
        }
        int total = 0;
        for (int column = 0; column < SIZE; column++) {
            total += cells[a * AREA + i * SIZE + column] * cells[b * AREA + j * SIZE + column];
        }
        return total;
    }

    public int sum(int s, int what, int i) {
        if (!isSlot(s)) {
            return 0;
        }
        if (what == DIAGONAL_SUM) {
            return sumEvery(s * AREA, SIZE + 1);
        }
        if (!isLine(i)) {
            return 0;
        }
        if (what == ROW_SUM) {
            return sumEvery(s * AREA + i * SIZE, 1);
        }
        if (what == COLUMN_SUM) {
            return sumEvery(s * AREA + i, SIZE);
        }
        return 0;
    }

    public boolean same(int a, int b) {
        if (!isSlot(a) || !isSlot(b)) {
            return false;
        }
        for (int k = 0; k < AREA; k++) {
            if (cells[a * AREA + k] != cells[b * AREA + k]) {
                return false;
            }
        }
        return true;
    }

    public boolean symmetric(int s) {
        if (!isSlot(s)) {
            return false;
        }
        for (int i = 0; i < SIZE; i++) {
            for (int j = 0; j < i; j++) {
                if (cells[s * AREA + i * SIZE + j] != cells[s * AREA + j * SIZE + i]) {
                    return false;
                }
            }
        }
        return true;
    }

    private static boolean isSlot(int s) {
        return s >= 0 && s < SLOTS;
    }

    private static boolean isLine(int i) {
        return i >= 0 && i < SIZE;
    }

    private static boolean isEntry(int s, int i, int j) {
        return isSlot(s) && isLine(i) && isLine(j);
    }

    private void makeProduct(int a, int b) {
        for (int i = 0; i < SIZE; i++) {
            for (int j = 0; j < SIZE; j++) {
                int total = 0;
                for (int k = 0; k < SIZE; k++) {
                    total += cells[a * AREA + i * SIZE + k] * cells[b * AREA + k * SIZE + j];
                }
                made[i * SIZE + j] = total;
            }
        }
    }

    private int storeMade(int t) {
        for (int k = 0; k < AREA; k++) {
            cells[t * AREA + k] = made[k];
        }
        return countNonZero(t);
    }

    private int countNonZero(int s) {
        int found = 0;
        for (int k = 0; k < AREA; k++) {
            if (cells[s * AREA + k] != 0) {
                found++;
            }
        }
        return found;
    }

    /** Rows, columns and the diagonal are each SIZE cells that stand a fixed step apart. */
    private int sumEvery(int first, int step) {
        int total = 0;
        for (int n = 0; n < SIZE; n++) {
            total += cells[first + n * step];
        }
        return total;
    }
}
