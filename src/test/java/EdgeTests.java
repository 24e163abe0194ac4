/**
 * Each sentence of the document that names a boundary case, with a test of its own under it.
 * No object gets more than the 512 calls that the document allows it.
 */
public final class EdgeTests extends Checks {
    /** 1 << 30 and MIN come back to 0 when a place is reckoned from them without a look first. */
    private static final int[] NO_SLOT = {-1, 5, MIN, MAX, 1 << 30};
    private static final int[] NO_LINE = {-1, 6, MIN, MAX, 1 << 30};
    /** Each would be a place of some slot if its three numbers were reckoned together unseen. */
    private static final int[][] NO_PLACE = {
        {0, 0, 6}, {0, 6, 0}, {0, 1, -1}, {1, -1, 0}, {1, 0, -1}, {0, -1, 6}, {0, 6, -1},
        {-1, 6, 0}, {-1, 5, 6}, {5, -1, 0}, {5, -6, 0}, {5, 0, -1}, {4, 6, -1}, {-1, 0, 36}
    };
    private static final int[] END_SLOTS = {0, 4};
    private static final int[] END_LINES = {0, 5};

    private interface Call {
        long on(SparseKernels x);
    }

    private interface CallWith {
        long on(SparseKernels x, int number);
    }

    private interface Entry {
        int of(int i, int j);
    }

    public static void main(String[] args) {
        terms();
        wrapping();
        put();
        add();
        entrywise();
        product();
        masked();
        transpose();
        scale();
        select();
        at();
        count();
        next();
        rowsProduct();
        sum();
        same();
        symmetric();
        orderAndLimits();
        finish();
    }

    private static void terms() {
        slotsAre0To4();
        rowsAndColumnsAre0To5();
        entriesAreInts();
        all0AtFirst();
        madeGoesInPlaceOfWhatWasThere();
        targetMayBeOneOrMoreOfThoseRead();
        atMost512Calls();
    }

    // "There are SLOTS 0 .. 4"
    private static void slotsAre0To4() {
        for (int s : END_SLOTS) {
            SparseKernels x = new SparseKernels();
            due("terms: put slot " + s, x.put(s, 2, 3, 8), true);
            due("terms: at slot " + s, x.at(s, 2, 3), 8);
            due("terms: count slot " + s, x.count(s), 1);
            due("terms: count of the other end", x.count(4 - s), 0);
            due("terms: next slot " + s, x.next(s, 2, 0), 3);
            due("terms: rowsProduct slot " + s, x.rowsProduct(s, 2, s, 2), 64);
            due("terms: sum slot " + s, x.sum(s, 0, 2), 8);
            due("terms: same slot " + s, x.same(s, s), true);
            due("terms: symmetric slot " + s, x.symmetric(s), false);
        }
    }

    // "a matrix with rows and columns 0 .. 5"
    private static void rowsAndColumnsAre0To5() {
        for (int s : END_SLOTS) {
            for (int i : END_LINES) {
                for (int j : END_LINES) {
                    corner(s, i, j);
                }
            }
        }
    }

    private static void corner(int s, int i, int j) {
        SparseKernels x = new SparseKernels();
        int[] want = new int[180];
        want[s * 36 + i * 6 + j] = 9;
        String told = "terms: corner " + s + " " + i + " " + j;
        due(told + " put", x.put(s, i, j, 9), true);
        due(told + " at", x.at(s, i, j), 9);
        due(told + " next", x.next(s, i, 0), j);
        due(told + " rowsProduct", x.rowsProduct(s, i, s, i), 81);
        due(told + " sum of the row", x.sum(s, 0, i), 9);
        due(told + " sum of the column", x.sum(s, 1, j), 9);
        due(told + " sum where row is column", x.sum(s, 2, 0), i == j ? 9 : 0);
        due(told + " no other entry", snapshot(x), want);
    }

    // "of ints"
    private static void entriesAreInts() {
        int[] entries = {MIN, MIN + 1, -1, 0, 1, MAX - 1, MAX};
        for (int v : entries) {
            SparseKernels x = full();
            due("terms: put entry " + v, x.put(4, 5, 5, v), true);
            due("terms: entry " + v, x.at(4, 5, 5), v);
            due("terms: count with entry " + v, x.count(4), v == 0 ? 35 : 36);
            due("terms: put entry again " + v, x.put(4, 5, 5, v), true);
            due("terms: entry again " + v, x.at(4, 5, 5), v);
        }
    }

    // "all 0 at first", and promise 1: "All matrices 0."
    private static void all0AtFirst() {
        due("1: every entry", snapshot(new SparseKernels()), new int[180]);
        SparseKernels x = new SparseKernels();
        for (int s = 0; s < 5; s++) {
            due("1: count " + s, x.count(s), 0);
            due("1: symmetric " + s, x.symmetric(s), true);
            due("1: sum where row is column " + s, x.sum(s, 2, 0), 0);
            for (int i = 0; i < 6; i++) {
                due("1: next " + s + " " + i, x.next(s, i, 0), NONE);
                due("1: sum of row " + i + " of " + s, x.sum(s, 0, i), 0);
                due("1: sum of column " + i + " of " + s, x.sum(s, 1, i), 0);
                due("1: rowsProduct " + s + " " + i, x.rowsProduct(s, i, 4 - s, i), 0);
            }
            for (int other = 0; other < 5; other++) {
                due("1: same " + s + " " + other, x.same(s, other), true);
            }
        }
    }

    // "the matrix that is made goes into slot t in place of what was there"
    private static void madeGoesInPlaceOfWhatWasThere() {
        int[] before = fullCells();
        for (int k = 0; k < 36; k++) {
            // One entry alone in slot 0 and in slot 1, so that nearly all that is made is 0.
            before[k] = k == 1 * 6 + 2 ? 3 : 0;
            before[36 + k] = k == 2 * 6 + 1 ? 5 : 0;
        }
        for (int t = 2; t < 5; t++) {
            int to = t;
            makes("terms: add into " + t, before, t, x -> x.add(to, 0, 1),
                    (i, j) -> i == 1 && j == 2 ? 3 : i == 2 && j == 1 ? 5 : 0);
            makes("terms: entrywise into " + t, before, t, x -> x.entrywise(to, 0, 0),
                    (i, j) -> i == 1 && j == 2 ? 9 : 0);
            makes("terms: product into " + t, before, t, x -> x.product(to, 0, 1),
                    (i, j) -> i == 1 && j == 1 ? 15 : 0);
            makes("terms: masked into " + t, before, t, x -> x.masked(to, 0 + 8 * 1 + 64 * to),
                    (i, j) -> i == 1 && j == 1 ? 15 : 0);
            makes("terms: transpose into " + t, before, t, x -> x.transpose(to, 0),
                    (i, j) -> i == 2 && j == 1 ? 3 : 0);
            makes("terms: scale into " + t, before, t, x -> x.scale(to, 0, -2),
                    (i, j) -> i == 1 && j == 2 ? -6 : 0);
            makes("terms: select into " + t, before, t, x -> x.select(to, 0, 4095),
                    (i, j) -> i == 1 && j == 2 ? 3 : 0);
        }
    }

    // "after the others have been read (t may be one of them)"
    private static void targetMayBeOneOrMoreOfThoseRead() {
        int[][] states = {filledCells(), fullCells()};
        for (int[] cells : states) {
            for (int n = 0; n < 125; n++) {
                makesFromTwo(cells, n / 25, n / 5 % 5, n % 5);
            }
            for (int n = 0; n < 625; n++) {
                makesMasked(cells, n / 125, n / 25 % 5, n / 5 % 5, n % 5);
            }
            for (int n = 0; n < 25; n++) {
                makesFromOne(cells, n / 5, n % 5);
            }
        }
    }

    private static void makesFromTwo(int[] cells, int t, int a, int b) {
        int[] left = slot(cells, a);
        int[] right = slot(cells, b);
        int[] product = plainProduct(left, right);
        String told = " into " + t + " from " + a + " and " + b;
        makes("3: add" + told, cells, t, x -> x.add(t, a, b), (i, j) -> left[i * 6 + j] + right[i * 6 + j]);
        makes("4: entrywise" + told, cells, t, x -> x.entrywise(t, a, b),
                (i, j) -> left[i * 6 + j] * right[i * 6 + j]);
        makes("5: product" + told, cells, t, x -> x.product(t, a, b), (i, j) -> product[i * 6 + j]);
    }

    private static void makesMasked(int[] cells, int t, int a, int b, int c) {
        int[] product = plainProduct(slot(cells, a), slot(cells, b));
        int[] mask = slot(cells, c);
        makes("6: masked into " + t + " from " + a + " and " + b + " under " + c, cells, t,
                x -> x.masked(t, a + 8 * b + 64 * c), (i, j) -> mask[i * 6 + j] == 0 ? 0 : product[i * 6 + j]);
    }

    private static void makesFromOne(int[] cells, int t, int a) {
        int[] read = slot(cells, a);
        String told = " into " + t + " from " + a;
        makes("7: transpose" + told, cells, t, x -> x.transpose(t, a), (i, j) -> read[j * 6 + i]);
        makes("8: scale" + told, cells, t, x -> x.scale(t, a, -3), (i, j) -> -3 * read[i * 6 + j]);
        makes("9: select" + told, cells, t, x -> x.select(t, a, 0b100001 + 64 * 0b100010),
                (i, j) -> (i == 0 || i == 5) && (j == 1 || j == 5) ? read[i * 6 + j] : 0);
    }

    // "An object is used for at most 512 calls after it has been made"
    private static void atMost512Calls() {
        SparseKernels x = new SparseKernels();
        for (int n = 1; n <= 510; n++) {
            due("limits: call " + n, x.put(n % 5, n % 6, n / 6 % 6, n), true);
        }
        due("limits: call 511", x.put(4, 5, 5, 511), true);
        due("limits: call 512", x.at(4, 5, 5), 511);
    }

    // "Arithmetic wraps."
    private static void wrapping() {
        addWraps();
        entrywiseWraps();
        productWraps();
        maskedWraps();
        scaleWraps();
        rowsProductWraps();
        sumWraps();
    }

    // "Arithmetic wraps.", and promise 3: "the number of entries of t that are not 0"
    private static void addWraps() {
        int[] left = {MAX, MIN, MAX, MIN, MIN, MAX};
        int[] right = {1, -1, MAX, MIN, MAX, -MAX};
        SparseKernels x = withRows(3, left, right);
        due("3: add that wraps", x.add(2, 0, 1), 4);
        due("3: sums that wrap", slot(x, 2), withRow(3, MIN, MAX, -2, 0, -1, 0));
        due("3: count of what wrapped", x.count(2), 4);
        due("3: add to itself that wraps", x.add(0, 0, 0), 3);
        due("3: twice the same", slot(x, 0), withRow(3, -2, 0, -2, 0, 0, -2));
        due("3: count of twice the same", x.count(0), 3);
    }

    // "Arithmetic wraps.", promise 4
    private static void entrywiseWraps() {
        int[] left = {MAX, MIN, 65536, MIN, 46341, 65536};
        int[] right = {MAX, -1, 65536, 2, 46341, 32768};
        SparseKernels x = withRows(5, left, right);
        due("4: entrywise that wraps", x.entrywise(2, 0, 1), 4);
        due("4: products that wrap", slot(x, 2), withRow(5, 1, MIN, 0, 0, -2147479015, MIN));
        due("4: count of what wrapped", x.count(2), 4);
    }

    // "Arithmetic wraps.", promise 5
    private static void productWraps() {
        SparseKernels x = wrappingFactors();
        due("5: product that wraps", x.product(2, 0, 1), 4);
        due("5: sums of products that wrap", slot(x, 2), withRow(0, 2, 0, 0, -2, -1, MIN));
        due("5: count of what wrapped", x.count(2), 4);
    }

    // "Arithmetic wraps.", promise 6
    private static void maskedWraps() {
        SparseKernels x = wrappingFactors();
        for (int j = 0; j < 4; j++) {
            x.put(3, 0, j, MIN);
        }
        due("6: masked that wraps", x.masked(2, 0 + 8 * 1 + 64 * 3), 2);
        due("6: sums of products that wrap", slot(x, 2), withRow(0, 2, 0, 0, -2, 0, 0));
        due("6: count of what wrapped", x.count(2), 2);
    }

    /** Row 0 of slot 0 times slot 1 is 2, 0, 0, -2, -1, MIN, each by wrapping around. */
    private static SparseKernels wrappingFactors() {
        SparseKernels x = new SparseKernels();
        fill(x, 0, withRow(0, MAX, MAX, 65536, MIN, MIN, 3));
        x.put(1, 0, 0, MAX);
        x.put(1, 1, 0, MAX);
        x.put(1, 2, 1, 65536);
        x.put(1, 3, 2, 1);
        x.put(1, 4, 2, 1);
        x.put(1, 0, 3, 1);
        x.put(1, 1, 3, 1);
        x.put(1, 0, 4, 1);
        x.put(1, 3, 4, 1);
        x.put(1, 3, 5, -1);
        return x;
    }

    // "Arithmetic wraps.", promise 8
    private static void scaleWraps() {
        scales(0, withRow(4, MIN, MAX, 1, 0, -1, 2), withRow(4, 0, 0, 0, 0, 0, 0), 0);
        scales(1, withRow(4, MIN, MAX, 1, 0, -1, 2), withRow(4, MIN, MAX, 1, 0, -1, 2), 5);
        scales(-1, withRow(4, MIN, MAX, 1, 0, -1, 2), withRow(4, MIN, -MAX, -1, 0, 1, -2), 5);
        scales(2, withRow(4, MIN, MAX, 1 << 30, 0, -1, 2), withRow(4, 0, -2, MIN, 0, -2, 4), 4);
        scales(65536, withRow(4, 65536, 32768, 1, -65536, 3, MAX),
                withRow(4, 0, MIN, 65536, 0, 196608, -65536), 4);
        scales(MIN, withRow(4, 1, 2, 3, -1, MAX, MIN), withRow(4, MIN, 0, MIN, MIN, MIN, 0), 4);
        scales(MAX, withRow(4, MAX, MIN, 1, 2, 0, -1), withRow(4, 1, MIN, MAX, -2, 0, -MAX), 5);
    }

    private static void scales(int k, int[] read, int[] want, int count) {
        SparseKernels x = new SparseKernels();
        fill(x, 1, read);
        due("8: scale by " + k, x.scale(3, 1, k), count);
        due("8: scaled by " + k, slot(x, 3), want);
        due("8: count of scaled by " + k, x.count(3), count);
    }

    // "Arithmetic wraps.", promise 13
    private static void rowsProductWraps() {
        rowsProductIs(2, new int[] {MAX, MAX}, new int[] {MAX, MAX});
        rowsProductIs(0, new int[] {65536, 0}, new int[] {65536, 0});
        rowsProductIs(0, new int[] {MIN, MIN}, new int[] {1, 1});
        rowsProductIs(0, new int[] {MIN, 0}, new int[] {2, 0});
        rowsProductIs(MIN, new int[] {MIN, 0}, new int[] {-1, 0});
        rowsProductIs(MIN, new int[] {MAX, 1}, new int[] {1, 1});
        rowsProductIs(MAX, new int[] {MIN, -1}, new int[] {1, 1});
    }

    private static void rowsProductIs(int want, int[] left, int[] right) {
        SparseKernels x = new SparseKernels();
        x.put(0, 0, 0, left[0]);
        x.put(0, 0, 5, left[1]);
        x.put(4, 5, 0, right[0]);
        x.put(4, 5, 5, right[1]);
        String told = left[0] + " " + left[1] + " by " + right[0] + " " + right[1];
        due("13: rows " + told, x.rowsProduct(0, 0, 4, 5), want);
        due("13: rows exchanged " + told, x.rowsProduct(4, 5, 0, 0), want);
    }

    // "Arithmetic wraps.", promise 14
    private static void sumWraps() {
        sumIs(MIN, MAX, 1);
        sumIs(MAX, MIN, -1);
        sumIs(0, MIN, MIN);
        sumIs(-2, MAX, MAX);
        sumIs(-1, MIN, MAX);
    }

    private static void sumIs(int want, int first, int last) {
        SparseKernels x = new SparseKernels();
        x.put(0, 3, 0, first);
        x.put(0, 3, 5, last);
        x.put(1, 0, 3, first);
        x.put(1, 5, 3, last);
        x.put(2, 0, 0, first);
        x.put(2, 5, 5, last);
        String told = first + " and " + last;
        due("14: row of " + told, x.sum(0, 0, 3), want);
        due("14: column of " + told, x.sum(1, 1, 3), want);
        due("14: where row is column, " + told, x.sum(2, 2, 0), want);
    }

    // Promise 2: "false, changing nothing, when s is not 0 .. 4 or i or j is not 0 .. 5"
    private static void put() {
        refusedSlots("2: put s", 0, (x, s) -> flag(x.put(s, 2, 3, 777)));
        refusedLines("2: put i", 0, (x, i) -> flag(x.put(2, i, 3, 777)));
        refusedLines("2: put j", 0, (x, j) -> flag(x.put(2, 3, j, 777)));
        refusedLines("2: put of a 0", 0, (x, n) -> flag(x.put(2, n, n, 0)));
        for (int[] place : NO_PLACE) {
            refused("2: put at " + place[0] + " " + place[1] + " " + place[2], 0,
                    x -> flag(x.put(place[0], place[1], place[2], 777)));
        }
        putAnswersTrue();
    }

    // Promise 2: "Sets the entry in row i and column j of slot s and answers true"
    private static void putAnswersTrue() {
        SparseKernels x = new SparseKernels();
        due("2: put a 0 where there is one", x.put(0, 0, 0, 0), true);
        due("2: put", x.put(0, 0, 0, 6), true);
        due("2: put the same", x.put(0, 0, 0, 6), true);
        due("2: put another", x.put(0, 0, 0, -6), true);
        due("2: put over", x.at(0, 0, 0), -6);
        due("2: put a 0", x.put(0, 0, 0, 0), true);
        due("2: all 0 again", snapshot(x), new int[180]);
    }

    // Promise 3: "NONE, changing nothing, when a slot is not 0 .. 4"
    private static void add() {
        refusedSlots("3: add t", NONE, (x, t) -> x.add(t, 0, 1));
        refusedSlots("3: add a", NONE, (x, a) -> x.add(4, a, 1));
        refusedSlots("3: add b", NONE, (x, b) -> x.add(4, 1, b));
        refusedSlots("3: add t, a and b", NONE, (x, s) -> x.add(s, s, s));
        addEmptyAndFull();
    }

    // Promise 3: "Slot t becomes a + b, entry by entry", all 0 and no 0
    private static void addEmptyAndFull() {
        int[] cells = emptyAndFullCells();
        for (int t = 0; t < 4; t++) {
            int to = t;
            makes("3: 0 + 0 into " + t, cells, t, x -> x.add(to, 0, 1), (i, j) -> 0);
            makes("3: 0 + no 0 into " + t, cells, t, x -> x.add(to, 0, 2), (i, j) -> i * 6 + j + 1);
            makes("3: no 0 + 0 into " + t, cells, t, x -> x.add(to, 2, 0), (i, j) -> i * 6 + j + 1);
            makes("3: no 0 + no 0 into " + t, cells, t, x -> x.add(to, 2, 2), (i, j) -> 2 * (i * 6 + j + 1));
            makes("3: no 0 + its opposite into " + t, cells, t, x -> x.add(to, 2, 3), (i, j) -> 0);
        }
    }

    // Promise 4, and promise 3's "(so below)"
    private static void entrywise() {
        refusedSlots("4: entrywise t", NONE, (x, t) -> x.entrywise(t, 0, 1));
        refusedSlots("4: entrywise a", NONE, (x, a) -> x.entrywise(4, a, 1));
        refusedSlots("4: entrywise b", NONE, (x, b) -> x.entrywise(4, 1, b));
        refusedSlots("4: entrywise t, a and b", NONE, (x, s) -> x.entrywise(s, s, s));
        int[] cells = emptyAndFullCells();
        for (int t = 0; t < 4; t++) {
            int to = t;
            makes("4: 0 by 0 into " + t, cells, t, x -> x.entrywise(to, 0, 1), (i, j) -> 0);
            makes("4: 0 by no 0 into " + t, cells, t, x -> x.entrywise(to, 0, 2), (i, j) -> 0);
            makes("4: no 0 by 0 into " + t, cells, t, x -> x.entrywise(to, 2, 0), (i, j) -> 0);
            makes("4: no 0 by no 0 into " + t, cells, t, x -> x.entrywise(to, 2, 3),
                    (i, j) -> -(i * 6 + j + 1) * (i * 6 + j + 1));
        }
    }

    // Promise 5, and promise 3's "(so below)"
    private static void product() {
        refusedSlots("5: product t", NONE, (x, t) -> x.product(t, 0, 1));
        refusedSlots("5: product a", NONE, (x, a) -> x.product(4, a, 1));
        refusedSlots("5: product b", NONE, (x, b) -> x.product(4, 1, b));
        refusedSlots("5: product t, a and b", NONE, (x, s) -> x.product(s, s, s));
        int[] cells = emptyAndFullCells();
        for (int t = 0; t < 4; t++) {
            int to = t;
            makes("5: 0 by 0 into " + t, cells, t, x -> x.product(to, 0, 1), (i, j) -> 0);
            makes("5: 0 by no 0 into " + t, cells, t, x -> x.product(to, 0, 2), (i, j) -> 0);
            makes("5: no 0 by 0 into " + t, cells, t, x -> x.product(to, 2, 0), (i, j) -> 0);
            makes("5: no 0 by no 0 into " + t, cells, t, x -> x.product(to, 2, 2), EdgeTests::squareOfFull);
        }
    }

    /** The entry of the product with itself of the matrix that counts from 1 to 36. */
    private static int squareOfFull(int i, int j) {
        int total = 0;
        for (int k = 0; k < 6; k++) {
            total += (i * 6 + k + 1) * (k * 6 + j + 1);
        }
        return total;
    }

    private static void masked() {
        refusedSlots("6: masked t", NONE, (x, t) -> x.masked(t, 0 + 8 * 1 + 64 * 2));
        maskedForm();
        maskedEmptyAndFull();
    }

    // Promise 6: "NONE also when that is not of this form with slots 0 .. 4"
    private static void maskedForm() {
        int[] cells = fullCells();
        makesMasked(cells, 3, 0, 0, 0);
        makesMasked(cells, 3, 4, 4, 4);
        makes("6: masked 0", cells, 3, x -> x.masked(3, 0), EdgeTests::squareOfFull);
        int[] last = slot(cells, 4);
        int[] square = plainProduct(last, last);
        makes("6: masked 292", cells, 3, x -> x.masked(3, 292), (i, j) -> square[i * 6 + j]);
        int[] notOfTheForm = {
            -1, -8, -64, -28, -292, -512, 5, 6, 7, 4 + 8 * 5, 8 * 5, 8 * 6, 8 * 7, 63, 64 * 5, 64 * 6, 64 * 7,
            64 * 8, 293, 294, 295, 4 + 8 * 5 + 64 * 4, 4 + 8 * 4 + 64 * 5, 5 + 8 * 5 + 64 * 5, 511, 512 + 292,
            1 << 30, MIN, MIN + 292, MAX, MAX - 7, MAX - 63
        };
        for (int abc : notOfTheForm) {
            for (int t = 0; t < 5; t++) {
                int to = t;
                refused("6: masked into " + t + " by " + abc, NONE, x -> x.masked(to, abc));
            }
        }
    }

    // Promise 6: "but with 0 wherever slot c has 0"
    private static void maskedEmptyAndFull() {
        int[] cells = emptyAndFullCells();
        // A single entry of the mask that is not 0, least of all ints, in the last place.
        cells[179] = MIN;
        for (int t = 0; t < 5; t++) {
            int to = t;
            String into = " into " + t;
            makes("6: c all 0" + into, cells, t, x -> x.masked(to, 2 + 8 * 2 + 64 * 0), (i, j) -> 0);
            makes("6: c no 0" + into, cells, t, x -> x.masked(to, 2 + 8 * 2 + 64 * 3), EdgeTests::squareOfFull);
            makes("6: c with one" + into, cells, t, x -> x.masked(to, 2 + 8 * 2 + 64 * 4),
                    (i, j) -> i == 5 && j == 5 ? squareOfFull(5, 5) : 0);
            makes("6: a all 0" + into, cells, t, x -> x.masked(to, 0 + 8 * 2 + 64 * 3), (i, j) -> 0);
            makes("6: b all 0" + into, cells, t, x -> x.masked(to, 2 + 8 * 0 + 64 * 3), (i, j) -> 0);
            makes("6: every slot all 0" + into, cells, t, x -> x.masked(to, 0), (i, j) -> 0);
        }
    }

    // Promise 7, and promise 3's "(so below)"
    private static void transpose() {
        refusedSlots("7: transpose t", NONE, (x, t) -> x.transpose(t, 1));
        refusedSlots("7: transpose a", NONE, (x, a) -> x.transpose(4, a));
        refusedSlots("7: transpose t and a", NONE, (x, s) -> x.transpose(s, s));
        int[] cells = emptyAndFullCells();
        cells[144 + 0 * 6 + 5] = MIN;
        cells[144 + 5 * 6 + 4] = MAX;
        for (int t = 0; t < 5; t++) {
            int to = t;
            makes("7: all 0 into " + t, cells, t, x -> x.transpose(to, 0), (i, j) -> 0);
            makes("7: no 0 into " + t, cells, t, x -> x.transpose(to, 2), (i, j) -> j * 6 + i + 1);
            makes("7: ends of the ints into " + t, cells, t, x -> x.transpose(to, 4),
                    (i, j) -> i == 5 && j == 0 ? MIN : i == 4 && j == 5 ? MAX : 0);
        }
    }

    // Promise 8, and promise 3's "(so below)"
    private static void scale() {
        int[] factors = {MIN, -1, 0, 1, MAX};
        for (int k : factors) {
            refusedSlots("8: scale by " + k + " t", NONE, (x, t) -> x.scale(t, 1, k));
            refusedSlots("8: scale by " + k + " a", NONE, (x, a) -> x.scale(4, a, k));
            refusedSlots("8: scale by " + k + " t and a", NONE, (x, s) -> x.scale(s, s, k));
            int[] cells = emptyAndFullCells();
            for (int t = 0; t < 4; t++) {
                int to = t;
                makes("8: all 0 by " + k + " into " + t, cells, t, x -> x.scale(to, 0, k), (i, j) -> 0);
                makes("8: no 0 by " + k + " into " + t, cells, t, x -> x.scale(to, 2, k),
                        (i, j) -> k * (i * 6 + j + 1));
            }
        }
    }

    private static void select() {
        refusedSlots("9: select t", NONE, (x, t) -> x.select(t, 1, 4095));
        refusedSlots("9: select a", NONE, (x, a) -> x.select(4, a, 4095));
        refusedSlots("9: select t and a", NONE, (x, s) -> x.select(s, s, 0));
        selectForm();
        selectEmptyAndFull();
    }

    // Promise 9: "NONE also when that is not 0 .. 4095"
    private static void selectForm() {
        int[] cells = fullCells();
        int[] read = slot(cells, 1);
        makes("9: select 0", cells, 3, x -> x.select(3, 1, 0), (i, j) -> 0);
        makes("9: select 4095", cells, 3, x -> x.select(3, 1, 4095), (i, j) -> read[i * 6 + j]);
        int[] notOfTheForm = {-1, 4096, MIN, MAX, -64, -4095, -4096, 8191, 1 << 30, MIN + 4095, 1 << 12 | 65};
        for (int packed : notOfTheForm) {
            for (int t = 0; t < 5; t++) {
                int to = t;
                refused("9: select into " + t + " by " + packed, NONE, x -> x.select(to, 1, packed));
                refused("9: select of " + t + " by " + packed, NONE, x -> x.select(to, to, packed));
            }
        }
    }

    // Promise 9: "those rows and columns whose bits (0 .. 5) are set", all 0 and no 0
    private static void selectEmptyAndFull() {
        int[] cells = emptyAndFullCells();
        for (int t = 0; t < 4; t++) {
            int to = t;
            makes("9: all of all 0 into " + t, cells, t, x -> x.select(to, 0, 4095), (i, j) -> 0);
            makes("9: all of no 0 into " + t, cells, t, x -> x.select(to, 2, 4095), (i, j) -> i * 6 + j + 1);
            makes("9: none of no 0 into " + t, cells, t, x -> x.select(to, 2, 0), (i, j) -> 0);
            for (int row : END_LINES) {
                for (int column : END_LINES) {
                    int packed = (1 << row) + 64 * (1 << column);
                    makes("9: corner by " + packed + " into " + t, cells, t, x -> x.select(to, 2, packed),
                            (i, j) -> i == row && j == column ? i * 6 + j + 1 : 0);
                }
            }
        }
    }

    // Promise 10: "0 when one of them is out of range"
    private static void at() {
        refusedSlots("10: at s", 0, (x, s) -> x.at(s, 2, 3));
        refusedLines("10: at i", 0, (x, i) -> x.at(2, i, 3));
        refusedLines("10: at j", 0, (x, j) -> x.at(2, 3, j));
        refusedLines("10: at i and j", 0, (x, n) -> x.at(2, n, n));
        for (int[] place : NO_PLACE) {
            refused("10: at " + place[0] + " " + place[1] + " " + place[2], 0,
                    x -> x.at(place[0], place[1], place[2]));
        }
    }

    // Promise 11: "NONE when s is not 0 .. 4"
    private static void count() {
        refusedSlots("11: count", NONE, (x, s) -> x.count(s));
        for (int s : END_SLOTS) {
            due("11: count of all 0 in " + s, new SparseKernels().count(s), 0);
            due("11: count of no 0 in " + s, full().count(s), 36);
            SparseKernels x = full();
            x.put(s, 0, 0, 0);
            due("11: count without the first in " + s, x.count(s), 35);
            x.put(s, 5, 5, 0);
            due("11: count without the last in " + s, x.count(s), 34);
            x.put(s, 0, 0, MIN);
            due("11: count with the least int in " + s, x.count(s), 35);
        }
    }

    // Promise 12: "or s or i is out of range"
    private static void next() {
        int[] columns = {MIN, -1, 0, 5, 6, MAX};
        for (int j : columns) {
            refusedSlots("12: next from " + j + " s", NONE, (x, s) -> x.next(s, 2, j));
            refusedLines("12: next from " + j + " i", NONE, (x, i) -> x.next(2, i, j));
        }
        nextFromJOn();
        nextInTheLastColumn();
        nextWhenThereIsNone();
        nextOfWhatIsNot0();
    }

    // Promise 12: "The least column, from j on"
    private static void nextFromJOn() {
        SparseKernels x = full();
        for (int s : END_SLOTS) {
            for (int i : END_LINES) {
                for (int j = 0; j < 6; j++) {
                    due("12: no 0 in row " + i + " of " + s + ", from " + j, x.next(s, i, j), j);
                }
                // No range is set for j: below 0, every column is from j on, and above 5 none is.
                due("12: no 0, from -1", x.next(s, i, -1), 0);
                due("12: no 0, from -6", x.next(s, i, -6), 0);
                due("12: no 0, from the least int", x.next(s, i, MIN), 0);
                due("12: no 0, from 6", x.next(s, i, 6), NONE);
                due("12: no 0, from 7", x.next(s, i, 7), NONE);
                due("12: no 0, from the greatest int", x.next(s, i, MAX), NONE);
            }
        }
    }

    // Promise 12: the last column
    private static void nextInTheLastColumn() {
        SparseKernels x = new SparseKernels();
        x.put(4, 5, 5, 1);
        int[] columns = {MIN, -1, 0, 1, 4, 5};
        for (int j : columns) {
            due("12: only the last column, from " + j, x.next(4, 5, j), 5);
        }
        due("12: after the last column", x.next(4, 5, 6), NONE);
    }

    // Promise 12: "NONE when there is none"
    private static void nextWhenThereIsNone() {
        SparseKernels x = full();
        int[] columns = {MIN, -1, 0, 1, 5, 6, MAX};
        for (int column = 0; column < 6; column++) {
            x.put(2, 3, column, 0);
        }
        for (int j : columns) {
            due("12: a row without an entry, from " + j, x.next(2, 3, j), NONE);
        }
        x.put(2, 3, 2, 8);
        int[] want = {2, 2, 2, NONE, NONE, NONE, NONE};
        for (int j = 0; j < 7; j++) {
            due("12: only column 2, from " + j, x.next(2, 3, j), want[j]);
        }
    }

    // Promise 12: "in which row i of slot s is not 0"
    private static void nextOfWhatIsNot0() {
        int[] entries = {MIN, -1, 1, 65536, MAX};
        for (int v : entries) {
            SparseKernels x = new SparseKernels();
            x.put(0, 0, 3, v);
            due("12: entry " + v, x.next(0, 0, 0), 3);
            x.put(0, 0, 3, 0);
            due("12: entry " + v + " set to 0", x.next(0, 0, 0), NONE);
        }
    }

    // Promise 13: "0 when one of them is out of range"
    private static void rowsProduct() {
        refusedSlots("13: rowsProduct a", 0, (x, a) -> x.rowsProduct(a, 2, 3, 4));
        refusedLines("13: rowsProduct i", 0, (x, i) -> x.rowsProduct(2, i, 3, 4));
        refusedSlots("13: rowsProduct b", 0, (x, b) -> x.rowsProduct(2, 2, b, 4));
        refusedLines("13: rowsProduct j", 0, (x, j) -> x.rowsProduct(2, 2, 3, j));
        refusedSlots("13: rowsProduct a and b", 0, (x, s) -> x.rowsProduct(s, 2, s, 4));
        refusedLines("13: rowsProduct i and j", 0, (x, n) -> x.rowsProduct(2, n, 3, n));
        refused("13: row -1 of slot 1", 0, x -> x.rowsProduct(1, -1, 0, 0));
        refused("13: row 6 of slot 0", 0, x -> x.rowsProduct(0, 0, 0, 6));
        SparseKernels x = holding(emptyAndFullCells());
        due("13: all 0 by all 0", x.rowsProduct(0, 0, 1, 5), 0);
        due("13: all 0 by no 0", x.rowsProduct(0, 0, 2, 5), 0);
        due("13: no 0 by all 0", x.rowsProduct(2, 5, 0, 0), 0);
        due("13: no 0 by no 0", x.rowsProduct(2, 0, 2, 5), 31 + 64 + 99 + 136 + 175 + 216);
        due("13: no 0 by its opposite", x.rowsProduct(2, 0, 3, 0), -(1 + 4 + 9 + 16 + 25 + 36));
    }

    private static void sum() {
        sumOfAnyOtherWhat();
        sumOutOfRange();
        sumWithoutUseOfI();
        SparseKernels x = holding(emptyAndFullCells());
        int[] rows = {21, 201};
        int[] columns = {96, 126};
        for (int n = 0; n < 2; n++) {
            due("14: row of no 0", x.sum(2, 0, END_LINES[n]), rows[n]);
            due("14: column of no 0", x.sum(2, 1, END_LINES[n]), columns[n]);
            due("14: row of all 0", x.sum(0, 0, END_LINES[n]), 0);
            due("14: column of all 0", x.sum(0, 1, END_LINES[n]), 0);
        }
        due("14: where row is column, no 0", x.sum(2, 2, 0), 111);
        due("14: where row is column, all 0", x.sum(0, 2, 0), 0);
    }

    // Promise 14: "0 for any other what"
    private static void sumOfAnyOtherWhat() {
        int[] others = {-1, 3, 4, -2, MIN, MAX, 1 << 30, MIN + 1, MIN + 2};
        int[] lines = {MIN, -1, 0, 5, 6, MAX};
        for (int what : others) {
            for (int i : lines) {
                refused("14: sum what " + what + " i " + i, 0, x -> x.sum(2, what, i));
            }
            refusedSlots("14: sum what " + what + " s", 0, (x, s) -> x.sum(s, what, 0));
        }
    }

    // Promise 14: "0 ... when s or i (where used) is out of range"
    private static void sumOutOfRange() {
        for (int n = 0; n < 3; n++) {
            int what = n;
            refusedSlots("14: sum what " + what + " s", 0, (x, s) -> x.sum(s, what, 2));
            refusedSlots("14: sum what " + what + " s and i", 0, (x, s) -> x.sum(s, what, MAX));
        }
        refusedLines("14: sum of row", 0, (x, i) -> x.sum(2, 0, i));
        refusedLines("14: sum of column", 0, (x, i) -> x.sum(2, 1, i));
    }

    // Promise 14: "what 2; i is not used"
    private static void sumWithoutUseOfI() {
        SparseKernels x = full();
        int[] lines = {MIN, -1, 0, 1, 5, 6, MAX};
        for (int i : lines) {
            for (int s : END_SLOTS) {
                due("14: where row is column, i " + i, x.sum(s, 2, i), s * 36 * 6 + 111);
            }
        }
    }

    // Promise 15: "false when one is not 0 .. 4"
    private static void same() {
        refusedSlots("15: same a", 0, (x, a) -> flag(x.same(a, 0)));
        refusedSlots("15: same b", 0, (x, b) -> flag(x.same(4, b)));
        refusedSlots("15: same a and b", 0, (x, s) -> flag(x.same(s, s)));
        refused("15: same -1 and 5", 0, x -> flag(x.same(-1, 5)));
        SparseKernels x = holding(emptyAndFullCells());
        due("15: all 0 and all 0", x.same(0, 1), true);
        due("15: all 0 and no 0", x.same(0, 2), false);
        due("15: no 0 and all 0", x.same(2, 0), false);
        due("15: no 0 and its opposite", x.same(2, 3), false);
        due("15: first and last slot", x.same(0, 4), true);
        x.scale(3, 3, -1);
        due("15: no 0 and its like", x.same(2, 3), true);
        otherInOnePlace(MIN, 0);
        otherInOnePlace(MIN, MAX);
        otherInOnePlace(1, -1);
        otherInOnePlace(65536, 0);
    }

    // Promise 15: "Whether the slots a and b hold the same matrix"
    private static void otherInOnePlace(int first, int second) {
        for (int k = 0; k < 36; k++) {
            SparseKernels x = new SparseKernels();
            x.put(0, k / 6, k % 6, first);
            x.put(4, k / 6, k % 6, second);
            String told = first + " and " + second + " in place " + k;
            due("15: " + told, x.same(0, 4), false);
            due("15: exchanged, " + told, x.same(4, 0), false);
            x.put(4, k / 6, k % 6, first);
            due("15: no longer " + told, x.same(0, 4), true);
        }
    }

    // Promise 16: "false when s is not 0 .. 4"
    private static void symmetric() {
        refusedSlots("16: symmetric", 0, (x, s) -> flag(x.symmetric(s)));
        for (int s : END_SLOTS) {
            due("16: all 0 in " + s, new SparseKernels().symmetric(s), true);
            due("16: no 0 in " + s, full().symmetric(s), false);
        }
        for (int k = 0; k < 36; k++) {
            SparseKernels x = new SparseKernels();
            x.put(4, k / 6, k % 6, MIN);
            due("16: one entry, in place " + k, x.symmetric(4), k / 6 == k % 6);
            x.put(4, k % 6, k / 6, MIN);
            due("16: its like, to place " + k, x.symmetric(4), true);
            x.put(4, k % 6, k / 6, MAX);
            due("16: not its like, to place " + k, x.symmetric(4), k / 6 == k % 6);
        }
        symmetricWithNo0();
    }

    // Promise 16: "the same matrix as it would with rows and columns exchanged", no 0
    private static void symmetricWithNo0() {
        SparseKernels x = new SparseKernels();
        for (int k = 0; k < 36; k++) {
            x.put(0, k / 6, k % 6, (k / 6 + 1) * (k % 6 + 1));
        }
        due("16: no 0, symmetric", x.symmetric(0), true);
        x.put(0, 4, 5, 29);
        due("16: no 0, other below the last", x.symmetric(0), false);
        x.put(0, 5, 4, 29);
        due("16: no 0, symmetric again", x.symmetric(0), true);
    }

    private static void orderAndLimits() {
        bothBitsMustBeSet();
        answersAreCountedThen();
        refusedBetweenOthers();
    }

    // Promise 17: "an entry of a stays if the bits of its row and of its column are both set"
    private static void bothBitsMustBeSet() {
        int[] cells = fullCells();
        int[] read = slot(cells, 0);
        makes("17: rows without columns", cells, 4, x -> x.select(4, 0, 63), (i, j) -> 0);
        makes("17: columns without rows", cells, 4, x -> x.select(4, 0, 64 * 63), (i, j) -> 0);
        for (int n = 0; n < 6; n++) {
            int line = n;
            makes("17: row " + n, cells, 4, x -> x.select(4, 0, (1 << line) + 64 * 63),
                    (i, j) -> i == line ? read[i * 6 + j] : 0);
            makes("17: column " + n, cells, 4, x -> x.select(4, 0, 63 + 64 * (1 << line)),
                    (i, j) -> j == line ? read[i * 6 + j] : 0);
            makes("17: all but row " + n, cells, 4, x -> x.select(4, 0, 63 - (1 << line) + 64 * 63),
                    (i, j) -> i == line ? 0 : read[i * 6 + j]);
            makes("17: all but column " + n, cells, 4, x -> x.select(4, 0, 63 + 64 * (63 - (1 << line))),
                    (i, j) -> j == line ? 0 : read[i * 6 + j]);
        }
    }

    // Promise 17: "the number of entries of t that are not 0 then, or NONE"
    private static void answersAreCountedThen() {
        SparseKernels x = new SparseKernels();
        fill(x, 0, withRow(0, 65536, 65536, 65536, 65536, 65536, 65536));
        fill(x, 1, withRow(0, 1, 0, 0, 0, 0, 65536));
        due("17: entrywise", x.entrywise(2, 0, 1), 1);
        due("17: product", x.product(2, 0, 1), 1);
        due("17: masked", x.masked(2, 0 + 8 * 1 + 64 * 1), 1);
        due("17: transpose", x.transpose(2, 0), 6);
        due("17: scale by 1", x.scale(2, 0, 1), 6);
        due("17: scale by 65536", x.scale(2, 0, 65536), 0);
        due("17: select", x.select(2, 0, 1 + 64 * 0b110000), 2);
        due("17: scale of t itself", x.scale(0, 0, 65536), 0);
        due("17: t is all 0 then", x.count(0), 0);
    }

    // Promise 17: "A call that is refused ... changes nothing", with calls before and after it
    private static void refusedBetweenOthers() {
        SparseKernels x = new SparseKernels();
        x.put(0, 0, 0, 2);
        due("17: before the refused calls", x.product(1, 0, 0), 1);
        due("17: refused put", x.put(0, 0, 6, 9), false);
        due("17: refused add", x.add(1, 0, 5), NONE);
        due("17: refused entrywise", x.entrywise(5, 0, 0), NONE);
        due("17: refused product", x.product(1, -1, 0), NONE);
        due("17: refused masked", x.masked(1, 5), NONE);
        due("17: refused transpose", x.transpose(-1, 0), NONE);
        due("17: refused scale", x.scale(1, 5, 0), NONE);
        due("17: refused select", x.select(1, 1, 4096), NONE);
        due("17: after the refused calls", x.product(1, 1, 0), 1);
        int[] want = new int[180];
        want[0] = 2;
        want[36] = 8;
        due("17: as if they had not been", snapshot(x), want);
    }

    /** Slots 0, 1 and 4 are all 0; slot 2 counts from 1 to 36, and slot 3 is its opposite. */
    private static int[] emptyAndFullCells() {
        int[] cells = new int[180];
        for (int k = 0; k < 36; k++) {
            cells[72 + k] = k + 1;
            cells[108 + k] = -k - 1;
        }
        return cells;
    }

    private static int[] withRow(int i, int... entries) {
        int[] matrix = new int[36];
        System.arraycopy(entries, 0, matrix, i * 6, 6);
        return matrix;
    }

    private static SparseKernels withRows(int i, int[] left, int[] right) {
        SparseKernels x = new SparseKernels();
        fill(x, 0, withRow(i, left));
        fill(x, 1, withRow(i, right));
        return x;
    }

    private static void refusedSlots(String told, long want, CallWith call) {
        for (int s : NO_SLOT) {
            refused(told + " " + s, want, x -> call.on(x, s));
        }
    }

    private static void refusedLines(String told, long want, CallWith call) {
        for (int i : NO_LINE) {
            refused(told + " " + i, want, x -> call.on(x, i));
        }
    }

    /** All 0 as well, because there every two slots are the same and each is symmetric. */
    private static void refused(String told, long want, Call call) {
        int[][] states = {new int[180], filledCells(), fullCells()};
        for (int[] before : states) {
            SparseKernels x = holding(before);
            due(told, call.on(x), want);
            due(told + " changes nothing", snapshot(x), before);
            due(told + " leaves the count", x.count(4), nonZero(slot(before, 4)));
        }
    }

    /** Slot t becomes the matrix of the entries, the answer is its count, and no other slot changes. */
    private static void makes(String told, int[] before, int t, Call call, Entry entry) {
        int[] want = before.clone();
        for (int k = 0; k < 36; k++) {
            want[t * 36 + k] = entry.of(k / 6, k % 6);
        }
        SparseKernels x = holding(before);
        due(told + " answer", call.on(x), nonZero(slot(want, t)));
        due(told + " state", snapshot(x), want);
        due(told + " count", x.count(t), nonZero(slot(want, t)));
    }
}
