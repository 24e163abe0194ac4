/**
 * At least one test for each promise of the document: ordinary inputs, edges and wrong inputs.
 * No object gets more than the 512 calls that the document allows it.
 */
public final class PromiseTests extends Checks {
    private static final int[] NO_SLOT = {-1, 5, 6, 7, 8, -5, MIN, MAX};
    private static final int[] NO_LINE = {-1, 6, 7, -6, 36, MIN, MAX};

    public static void main(String[] args) {
        newObject();
        objectsAreApart();
        put();
        add();
        entrywise();
        product();
        masked();
        maskedForm();
        transpose();
        scale();
        select();
        at();
        count();
        next();
        rowsProduct();
        sum();
        same();
        symmetric();
        refusalsChangeNothing();
        targetMayBeRead();
        answersAreTheCount();
        finish();
    }

    // Promise 1
    private static void newObject() {
        SparseKernels x = new SparseKernels();
        due("1: NONE", SparseKernels.NONE, -1);
        due("1: a new object", snapshot(x), new int[180]);
        for (int s = 0; s < 5; s++) {
            due("1: count " + s, x.count(s), 0);
        }
    }

    // Promise 1: each object has matrices of its own, whatever is made and called after it
    private static void objectsAreApart() {
        SparseKernels first = filled();
        SparseKernels second = full();
        SparseKernels third = new SparseKernels();
        due("1: the first, with two more made", snapshot(first), filledCells());
        due("1: the third, all 0", snapshot(third), new int[180]);
        int[] want = fullCells();
        for (int k = 0; k < 36; k++) {
            want[36 + k] = want[k] * 2;
        }
        second.scale(1, 0, 2);
        third.put(0, 0, 0, 5);
        third.transpose(1, 0);
        due("1: the second, after calls on the third", snapshot(second), want);
        due("1: the first, after calls on the others", snapshot(first), filledCells());
        due("1: the count of the third", third.count(1), 1);
    }

    // Promise 2
    private static void put() {
        SparseKernels x = new SparseKernels();
        int[] want = new int[180];
        for (int k = 0; k < 180; k++) {
            want[k] = k * 1000003 - 5;
            due("2: put cell " + k, x.put(k / 36, k / 6 % 6, k % 6, want[k]), true);
        }
        due("2: every cell is its own", snapshot(x), want);
        due("2: put over", x.put(4, 5, 5, MIN), true);
        due("2: what was put over", x.at(4, 5, 5), MIN);
        due("2: put 0", x.put(0, 0, 0, 0), true);
        due("2: what was put to 0", x.at(0, 0, 0), 0);
        wrongPuts();
    }

    private static void wrongPuts() {
        SparseKernels x = filled();
        for (int s : NO_SLOT) {
            due("2: put slot " + s, x.put(s, 0, 0, 1), false);
        }
        for (int i : NO_LINE) {
            due("2: put row " + i, x.put(1, i, 0, 1), false);
            due("2: put column " + i, x.put(1, 0, i, 1), false);
        }
        due("2: refused put changes nothing", snapshot(x), filledCells());
    }

    // Promise 3
    private static void add() {
        SparseKernels x = filled();
        x.put(0, 0, 0, MAX);
        x.put(1, 0, 0, 1);
        x.put(0, 5, 5, 9);
        x.put(1, 5, 5, -9);
        x.put(0, 3, 4, MIN);
        x.put(1, 3, 4, MIN);
        int[] a = slot(x, 0);
        int[] b = slot(x, 1);
        int[] want = new int[36];
        for (int k = 0; k < 36; k++) {
            want[k] = a[k] + b[k];
        }
        due("3: add", x.add(2, 0, 1), nonZero(want));
        due("3: sum of both", slot(x, 2), want);
        due("3: wraps", x.at(2, 0, 0), MIN);
        due("3: cancels", x.at(2, 5, 5), 0);
        due("3: wraps to 0", x.at(2, 3, 4), 0);
        due("3: a stays", slot(x, 0), a);
        due("3: b stays", slot(x, 1), b);
        for (int s : NO_SLOT) {
            due("3: add t " + s, x.add(s, 0, 1), NONE);
            due("3: add a " + s, x.add(3, s, 1), NONE);
            due("3: add b " + s, x.add(3, 0, s), NONE);
        }
    }

    // Promise 4
    private static void entrywise() {
        SparseKernels x = new SparseKernels();
        x.put(0, 0, 0, 3);
        x.put(1, 0, 0, -7);
        x.put(0, 1, 2, 5);
        x.put(1, 2, 1, 5);
        x.put(0, 5, 5, 65536);
        x.put(1, 5, 5, 65536);
        x.put(0, 4, 5, MAX);
        x.put(1, 4, 5, 2);
        x.put(2, 1, 2, 99);
        due("4: entrywise", x.entrywise(2, 0, 1), 2);
        int[] want = new int[36];
        want[0] = -21;
        want[29] = -2;
        due("4: products by entry", slot(x, 2), want);
        for (int s : NO_SLOT) {
            due("4: entrywise t " + s, x.entrywise(s, 0, 1), NONE);
            due("4: entrywise a " + s, x.entrywise(3, s, 1), NONE);
            due("4: entrywise b " + s, x.entrywise(3, 0, s), NONE);
        }
    }

    // Promise 5
    private static void product() {
        SparseKernels x = new SparseKernels();
        x.put(0, 0, 1, 2);
        x.put(0, 0, 5, 3);
        x.put(0, 4, 1, 65536);
        x.put(1, 1, 0, 5);
        x.put(1, 5, 0, 7);
        x.put(1, 1, 4, 65536);
        x.put(1, 5, 3, MAX);
        due("5: product", x.product(2, 0, 1), 4);
        int[] want = new int[36];
        want[0] = 31;
        want[3] = MAX * 3;
        want[4] = 131072;
        want[24] = 327680;
        due("5: a times b", slot(x, 2), want);
        due("5: b times a", x.product(3, 1, 0), 4);
        int[] other = new int[36];
        // 5 * 2 and 65536 * 65536, which wraps to 0
        other[7] = 10;
        other[11] = 15;
        other[31] = 14;
        other[35] = 21;
        due("5: order counts", slot(x, 3), other);
        for (int s : NO_SLOT) {
            due("5: product t " + s, x.product(s, 0, 1), NONE);
            due("5: product a " + s, x.product(3, s, 1), NONE);
            due("5: product b " + s, x.product(3, 0, s), NONE);
        }
    }

    // Promise 6
    private static void masked() {
        SparseKernels x = filled();
        x.put(2, 0, 0, 0);
        x.put(2, 3, 4, 0);
        x.put(2, 5, 5, 0);
        x.put(2, 1, 1, -1);
        int[] mask = slot(x, 2);
        int[] want = plainProduct(slot(x, 0), slot(x, 1));
        for (int k = 0; k < 36; k++) {
            want[k] = mask[k] == 0 ? 0 : want[k];
        }
        due("6: masked", x.masked(3, 0 + 8 * 1 + 64 * 2), nonZero(want));
        due("6: product under the mask", slot(x, 3), want);
        due("6: mask stays", slot(x, 2), mask);
        due("6: into the mask", x.masked(2, 0 + 8 * 1 + 64 * 2), nonZero(want));
        due("6: mask read before it is replaced", slot(x, 2), want);
        due("6: all of one slot", filled().masked(4, 4 + 8 * 4 + 64 * 4), nonZero(plainMaskedSelf()));
    }

    private static int[] plainMaskedSelf() {
        int[] a = slot(filled(), 4);
        int[] made = plainProduct(a, a);
        for (int k = 0; k < 36; k++) {
            made[k] = a[k] == 0 ? 0 : made[k];
        }
        return made;
    }

    private static void maskedForm() {
        for (int abc = -700; abc <= 1300; abc++) {
            maskedFormOf(abc);
        }
        int[] far = {MIN, MIN + 1, MIN + 64, MAX, MAX - 63, 1 << 16, 1 << 29, 1 << 30, -(1 << 9)};
        for (int abc : far) {
            maskedFormOf(abc);
        }
    }

    private static void maskedFormOf(int abc) {
        SparseKernels x = new SparseKernels();
        x.put(0, 0, 0, 1);
        boolean formed = false;
        for (int n = 0; n < 125; n++) {
            formed |= n % 5 + 8 * (n / 5 % 5) + 64 * (n / 25) == abc;
        }
        int[] before = new int[180];
        before[0] = 1;
        int answer = x.masked(3, abc);
        due("6: masked form " + abc, answer == NONE, !formed);
        if (!formed) {
            due("6: refused form " + abc, snapshot(x), before);
        }
        for (int t : NO_SLOT) {
            due("6: masked t " + t + " form " + abc, x.masked(t, abc), NONE);
        }
    }

    // Promise 7
    private static void transpose() {
        SparseKernels x = filled();
        int[] a = slot(x, 0);
        int[] want = new int[36];
        for (int k = 0; k < 36; k++) {
            want[k % 6 * 6 + k / 6] = a[k];
        }
        due("7: transpose", x.transpose(2, 0), nonZero(a));
        due("7: rows and columns exchanged", slot(x, 2), want);
        due("7: a stays", slot(x, 0), a);
        for (int s : NO_SLOT) {
            due("7: transpose t " + s, x.transpose(s, 0), NONE);
            due("7: transpose a " + s, x.transpose(3, s), NONE);
        }
    }

    // Promise 8
    private static void scale() {
        int[] factors = {0, 1, -1, 2, 7, 65536, MIN, MAX};
        for (int factor : factors) {
            SparseKernels x = filled();
            x.put(0, 0, 0, 65536);
            x.put(0, 5, 5, MIN);
            int[] a = slot(x, 0);
            int[] want = new int[36];
            for (int k = 0; k < 36; k++) {
                want[k] = a[k] * factor;
            }
            due("8: scale by " + factor, x.scale(2, 0, factor), nonZero(want));
            due("8: scaled by " + factor, slot(x, 2), want);
            due("8: a stays", slot(x, 0), a);
            for (int s : NO_SLOT) {
                due("8: scale t " + s, x.scale(s, 0, factor), NONE);
                due("8: scale a " + s, x.scale(3, s, factor), NONE);
            }
        }
    }

    // Promise 9, and what promise 17 says of it
    private static void select() {
        int[] a = new int[36];
        for (int k = 0; k < 36; k++) {
            a[k] = k - 40;
        }
        for (int packed = 0; packed < 4096; packed++) {
            int[] want = new int[36];
            for (int k = 0; k < 36; k++) {
                boolean row = (packed % 64 & 1 << k / 6) != 0;
                boolean column = (packed / 64 & 1 << k % 6) != 0;
                want[k] = row && column ? a[k] : 0;
            }
            SparseKernels x = new SparseKernels();
            fill(x, 0, a);
            due("9: select " + packed, x.select(2, 0, packed), nonZero(want));
            due("9: selected " + packed, slot(x, 2), want);
            due("9: a stays " + packed, slot(x, 0), a);
        }
        SparseKernels x = filled();
        int[] noForm = {-1, 4096, 4097, 8191, -64, -4096, MIN, MAX, 1 << 16};
        for (int packed : noForm) {
            due("9: select packed " + packed, x.select(0, 0, packed), NONE);
        }
        for (int s : NO_SLOT) {
            due("9: select t " + s, x.select(s, 0, 4095), NONE);
            due("9: select a " + s, x.select(0, s, 4095), NONE);
        }
    }

    // Promise 10
    private static void at() {
        SparseKernels x = full();
        due("10: first", x.at(0, 0, 0), 1);
        due("10: last", x.at(4, 5, 5), 180);
        due("10: middle", x.at(2, 3, 4), 2 * 36 + 3 * 6 + 4 + 1);
        for (int s : NO_SLOT) {
            due("10: at slot " + s, x.at(s, 0, 0), 0);
        }
        for (int i : NO_LINE) {
            due("10: at row " + i, x.at(1, i, 0), 0);
            due("10: at column " + i, x.at(1, 0, i), 0);
        }
    }

    // Promise 11
    private static void count() {
        SparseKernels x = new SparseKernels();
        for (int k = 0; k < 36; k++) {
            x.put(4, k / 6, k % 6, k % 2 == 0 ? MIN : 1);
            due("11: count after " + k, x.count(4), k + 1);
        }
        due("11: the others stay", x.count(3), 0);
        x.put(4, 5, 5, 0);
        due("11: count after a 0", x.count(4), 35);
        x.put(4, 5, 5, 0);
        due("11: count after another 0", x.count(4), 35);
        for (int s : NO_SLOT) {
            due("11: count " + s, x.count(s), NONE);
        }
    }

    // Promise 12
    private static void next() {
        SparseKernels x = new SparseKernels();
        x.put(1, 2, 1, 4);
        x.put(1, 2, 5, -4);
        x.put(1, 3, 0, MIN);
        int[] want = {1, 1, 5, 5, 5, 5};
        for (int j = 0; j < 6; j++) {
            due("12: next from " + j, x.next(1, 2, j), want[j]);
        }
        due("12: column 0", x.next(1, 3, 0), 0);
        due("12: after the only one", x.next(1, 3, 1), NONE);
        due("12: an empty row", x.next(1, 1, 0), NONE);
        int[] early = {-1, -6, -7, -100, MIN};
        for (int j : early) {
            due("12: from before the first column, " + j, x.next(1, 2, j), 1);
        }
        int[] late = {6, 7, 100, MAX};
        for (int j : late) {
            due("12: from after the last column, " + j, x.next(1, 2, j), NONE);
        }
        SparseKernels y = full();
        for (int s : NO_SLOT) {
            due("12: next slot " + s, y.next(s, 0, 0), NONE);
        }
        for (int i : NO_LINE) {
            due("12: next row " + i, y.next(1, i, 0), NONE);
        }
    }

    // Promise 13
    private static void rowsProduct() {
        SparseKernels x = new SparseKernels();
        x.put(0, 1, 0, 2);
        x.put(0, 1, 3, 3);
        x.put(0, 1, 5, 5);
        x.put(1, 4, 0, 7);
        x.put(1, 4, 2, 9);
        x.put(1, 4, 5, -11);
        due("13: two rows", x.rowsProduct(0, 1, 1, 4), 14 - 55);
        due("13: the other way", x.rowsProduct(1, 4, 0, 1), 14 - 55);
        due("13: a row with itself", x.rowsProduct(0, 1, 0, 1), 4 + 9 + 25);
        due("13: an empty row", x.rowsProduct(0, 1, 1, 1), 0);
        x.put(2, 5, 5, MAX);
        x.put(2, 5, 4, MAX);
        due("13: wraps", x.rowsProduct(2, 5, 2, 5), 2);
        x.put(3, 0, 1, 3);
        due("13: wraps in the product", x.rowsProduct(2, 5, 3, 0), 0);
        SparseKernels y = full();
        // Rows 1 2 3 4 5 6 and 55 56 57 58 59 60; the cells after them are not 0 either.
        due("13: full rows", y.rowsProduct(0, 0, 1, 3), 55 + 112 + 171 + 232 + 295 + 360);
        // The last row of all ends where the cells do.
        due("13: the last row", y.rowsProduct(0, 0, 4, 5), 175 + 352 + 531 + 712 + 895 + 1080);
        for (int s : NO_SLOT) {
            due("13: slot a " + s, y.rowsProduct(s, 0, 1, 0), 0);
            due("13: slot b " + s, y.rowsProduct(1, 0, s, 0), 0);
        }
        for (int i : NO_LINE) {
            due("13: row i " + i, y.rowsProduct(1, i, 1, 0), 0);
            due("13: row j " + i, y.rowsProduct(1, 0, 1, i), 0);
        }
    }

    // Promise 14
    private static void sum() {
        SparseKernels x = full();
        for (int s = 0; s < 5; s++) {
            for (int i = 0; i < 6; i++) {
                due("14: row " + i, x.sum(s, 0, i), 6 * (s * 36 + i * 6 + 1) + 15);
                due("14: column " + i, x.sum(s, 1, i), 6 * (s * 36 + i + 1) + 90);
            }
            due("14: diagonal", x.sum(s, 2, 0), 6 * (s * 36 + 1) + 105);
        }
        for (int i : NO_LINE) {
            due("14: row " + i, x.sum(1, 0, i), 0);
            due("14: column " + i, x.sum(1, 1, i), 0);
            due("14: diagonal, i " + i, x.sum(1, 2, i), 6 * 37 + 105);
        }
        int[] noWhat = {-1, 3, 4, -2, MIN, MAX};
        for (int what : noWhat) {
            due("14: what " + what, x.sum(1, what, 0), 0);
        }
        for (int s : NO_SLOT) {
            for (int what = 0; what < 3; what++) {
                due("14: slot " + s + " what " + what, x.sum(s, what, 0), 0);
            }
        }
        x.put(0, 0, 0, MAX);
        due("14: row wraps", x.sum(0, 0, 0), MAX + 20);
        due("14: column wraps", x.sum(0, 1, 0), MAX + 95);
        due("14: diagonal wraps", x.sum(0, 2, 0), MAX + 110);
    }

    // Promise 15
    private static void same() {
        SparseKernels x = filled();
        x.scale(3, 0, 1);
        due("15: a copy", x.same(0, 3), true);
        due("15: itself", x.same(4, 4), true);
        due("15: another", x.same(0, 1), false);
        for (int k = 0; k < 36; k++) {
            int was = x.at(3, k / 6, k % 6);
            x.put(3, k / 6, k % 6, was + 1);
            due("15: other in cell " + k, x.same(0, 3), false);
            due("15: other in cell " + k + ", exchanged", x.same(3, 0), false);
            x.put(3, k / 6, k % 6, was);
            due("15: again the same " + k, x.same(3, 0), true);
        }
        SparseKernels y = new SparseKernels();
        for (int s : NO_SLOT) {
            due("15: same a " + s, y.same(s, 0), false);
            due("15: same b " + s, y.same(0, s), false);
            due("15: same both " + s, y.same(s, s), false);
        }
    }

    // Promise 16
    private static void symmetric() {
        SparseKernels x = new SparseKernels();
        due("16: all 0", x.symmetric(2), true);
        for (int i = 0; i < 6; i++) {
            for (int j = 0; j < 6; j++) {
                x.put(2, i, j, i * j + i + j - 9);
            }
        }
        due("16: symmetric", x.symmetric(2), true);
        for (int k = 0; k < 36; k++) {
            int was = x.at(2, k / 6, k % 6);
            x.put(2, k / 6, k % 6, was + 1);
            due("16: other in cell " + k, x.symmetric(2), k / 6 == k % 6);
            x.put(2, k / 6, k % 6, was);
        }
        x.put(3, 0, 1, 5);
        x.put(3, 1, 0, -5);
        due("16: opposite signs", x.symmetric(3), false);
        SparseKernels y = new SparseKernels();
        for (int s : NO_SLOT) {
            due("16: symmetric " + s, y.symmetric(s), false);
        }
    }

    // Promise 17, and the refusals of promises 2 to 9
    private static void refusalsChangeNothing() {
        int[] before = filledCells();
        for (int s : NO_SLOT) {
            SparseKernels x = filled();
            for (int t = 0; t < 5; t++) {
                x.put(s, t, t, 1);
                x.add(s, t, 0);
                x.add(t, s, 0);
                x.add(t, 0, s);
                x.entrywise(s, t, 0);
                x.entrywise(t, s, 0);
                x.entrywise(t, 0, s);
                x.product(s, t, 0);
                x.product(t, s, 0);
                x.product(t, 0, s);
                x.masked(s, 0);
                x.masked(t, 5);
                x.masked(t, 8 * 5);
                x.masked(t, 64 * 5);
                x.masked(t, -1);
                x.transpose(s, t);
                x.transpose(t, s);
                x.scale(s, t, 3);
                x.scale(t, s, 3);
                x.select(s, t, 0);
                x.select(t, s, 0);
                x.select(t, t, -1);
                x.select(t, t, 4096);
            }
            due("17: refused calls with slot " + s, snapshot(x), before);
        }
        SparseKernels x = filled();
        for (int i : NO_LINE) {
            x.put(0, i, 0, 1);
            x.put(0, 0, i, 1);
        }
        questions(x);
        due("17: refused puts and questions", snapshot(x), before);
    }

    private static void questions(SparseKernels x) {
        for (int s = -1; s < 6; s++) {
            x.at(s, 1, 1);
            x.count(s);
            x.next(s, 1, 1);
            x.rowsProduct(s, 1, 1, 1);
            x.sum(s, 0, 1);
            x.sum(s, 1, 1);
            x.sum(s, 2, 1);
            x.same(s, 1);
            x.symmetric(s);
        }
    }

    // Terms: "after the others have been read (t may be one of them)"; no other slot changes
    private static void targetMayBeRead() {
        for (int t = 0; t < 5; t++) {
            for (int a = 0; a < 5; a++) {
                for (int b = 0; b < 5; b++) {
                    for (int call = 0; call < 7; call++) {
                        targetMayBeReadIn(call, t, a, b);
                    }
                }
            }
        }
    }

    private static void targetMayBeReadIn(int call, int t, int a, int b) {
        SparseKernels x = filled();
        int[] want = filledCells();
        int[] left = slot(want, a);
        int[] right = slot(want, b);
        int[] made = call == 2 || call == 3 ? plainProduct(left, right) : new int[36];
        for (int k = 0; k < 36; k++) {
            switch (call) {
                case 0 -> made[k] = left[k] + right[k];
                case 1 -> made[k] = left[k] * right[k];
                case 3 -> made[k] = want[t * 36 + k] == 0 ? 0 : made[k];
                case 4 -> made[k] = left[k % 6 * 6 + k / 6];
                case 5 -> made[k] = left[k] * (b - 2);
                case 6 -> made[k] = (b + 42 >> k / 6 & 1) == 1 && (37 >> k % 6 & 1) == 1 ? left[k] : 0;
                default -> { }
            }
        }
        int answer = switch (call) {
            case 0 -> x.add(t, a, b);
            case 1 -> x.entrywise(t, a, b);
            case 2 -> x.product(t, a, b);
            case 3 -> x.masked(t, a + 8 * b + 64 * t);
            case 4 -> x.transpose(t, a);
            case 5 -> x.scale(t, a, b - 2);
            default -> x.select(t, a, b + 42 + 64 * 37);
        };
        String told = "17: call " + call + " t " + t + " a " + a + " b " + b;
        System.arraycopy(made, 0, want, t * 36, 36);
        due(told + " answer", answer, nonZero(made));
        due(told + " state", snapshot(x), want);
    }

    // Promise 17: "the number of entries of t that are not 0 then"
    private static void answersAreTheCount() {
        SparseKernels x = filled();
        due("17: add", x.add(4, 0, 1), x.count(4));
        due("17: entrywise", x.entrywise(4, 0, 1), x.count(4));
        due("17: product", x.product(4, 0, 1), x.count(4));
        due("17: masked", x.masked(4, 8 + 128), x.count(4));
        due("17: transpose", x.transpose(4, 0), x.count(4));
        due("17: scale", x.scale(4, 0, 65536), x.count(4));
        due("17: select", x.select(4, 0, 21 + 64 * 42), x.count(4));
    }
}
