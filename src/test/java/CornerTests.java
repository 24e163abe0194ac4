import java.util.Arrays;

/**
 * Every call with every choice of numbers from the edges of their ranges, in all places at once,
 * held against the plain model: the answer, and every entry afterwards.
 */
public final class CornerTests extends Checks {
    private static final int[] EDGES = {MIN, -1, 0, 1, 4, 5, 6, MAX};
    private static final int[] FORMS = {MIN, -1, 0, 4, 5, 32, 40, 63, 256, 292, 293, 300, 320, 4095, 4096, MAX};

    private interface Call {
        long on(SparseKernels x);
    }

    private interface Due {
        long of(Model model);
    }

    public static void main(String[] args) {
        int[][] states = {new int[180], filledCells(), fullCells()};
        for (int[] cells : states) {
            for (int p : EDGES) {
                one(cells, p);
                for (int q : EDGES) {
                    two(cells, p, q);
                    for (int r : EDGES) {
                        three(cells, p, q, r);
                    }
                }
            }
        }
        finish();
    }

    private static void one(int[] cells, int p) {
        check("count", cells, x -> x.count(p), m -> m.count(p), p);
        check("symmetric", cells, x -> flag(x.symmetric(p)), m -> flag(m.symmetric(p)), p);
        for (int abc : FORMS) {
            check("masked", cells, x -> x.masked(p, abc), m -> m.masked(p, abc), p, abc);
        }
    }

    private static void two(int[] cells, int p, int q) {
        check("same", cells, x -> flag(x.same(p, q)), m -> flag(m.same(p, q)), p, q);
        check("transpose", cells, x -> x.transpose(p, q), m -> m.transpose(p, q), p, q);
        for (int packed : FORMS) {
            check("select", cells, x -> x.select(p, q, packed), m -> m.select(p, q, packed), p, q, packed);
        }
        for (int n = -1; n <= 3; n++) {
            int what = n;
            check("sum", cells, x -> x.sum(p, what, q), m -> m.sum(p, what, q), p, what, q);
        }
    }

    private static void three(int[] cells, int p, int q, int r) {
        check("add", cells, x -> x.add(p, q, r), m -> m.add(p, q, r), p, q, r);
        check("entrywise", cells, x -> x.entrywise(p, q, r), m -> m.entrywise(p, q, r), p, q, r);
        check("product", cells, x -> x.product(p, q, r), m -> m.product(p, q, r), p, q, r);
        check("scale", cells, x -> x.scale(p, q, r), m -> m.scale(p, q, r), p, q, r);
        check("at", cells, x -> x.at(p, q, r), m -> m.at(p, q, r), p, q, r);
        check("next", cells, x -> x.next(p, q, r), m -> m.next(p, q, r), p, q, r);
        for (int last : EDGES) {
            check("put", cells, x -> flag(x.put(p, q, r, last)), m -> flag(m.put(p, q, r, last)), p, q, r, last);
            check("rowsProduct", cells, x -> x.rowsProduct(p, q, r, last), m -> m.rowsProduct(p, q, r, last),
                    p, q, r, last);
        }
    }

    private static void check(String name, int[] cells, Call call, Due due, int... numbers) {
        SparseKernels x = holding(cells);
        Model model = new Model();
        for (int k = 0; k < 180; k++) {
            model.put(k / 36, k / 6 % 6, k % 6, cells[k]);
        }
        String told = name + Arrays.toString(numbers);
        due(told, call.on(x), due.of(model));
        due(told + " state", snapshot(x), model.snapshot());
    }
}
