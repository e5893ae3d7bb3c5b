/** Promises 5 to 8: reduce, rank, rrefAt and transformAt. */
public final class ReduceTest {
    private static final int MAX = Integer.MAX_VALUE;
    private static final int MIN = Integer.MIN_VALUE;
    private static final Due due = new Due();

    public static void main(String[] args) {
        theFirstRowOtherThanZeroIsTaken();
        columnsWithoutAPivotArePassedOver();
        moreRowsThanColumns();
        rowsEndBeforeColumns();
        reducedTwice();
        reducedAgainAfterSet();
        largeNumbers();
        noSuchNumber();
        due.end();
    }

    private static void theFirstRowOtherThanZeroIsTaken() {
        PrimeBench x = due.bench(7, new int[][] {{0, 0}, {2, 1}, {3, 0}});
        due.notReduced(x);
        due.is("reduce()", x.reduce(), 2);
        due.is("rank()", x.rank(), 2);
        due.rref(x, new int[][] {{1, 0}, {0, 1}, {0, 0}});
        // Row 1 changes places with row 0, then row 2 with what was row 0.
        due.transform(x, new int[][] {{0, 0, 5}, {0, 1, 4}, {1, 0, 0}});
    }

    private static void columnsWithoutAPivotArePassedOver() {
        PrimeBench x = due.bench(5, new int[][] {{0, 2, 4, 1}, {0, 1, 2, 0}});
        due.is("reduce()", x.reduce(), 2);
        due.rref(x, new int[][] {{0, 1, 2, 0}, {0, 0, 0, 1}});
        due.transform(x, new int[][] {{0, 1}, {1, 3}});
        due.is("kernelDim()", x.kernelDim(), 2);
    }

    private static void moreRowsThanColumns() {
        PrimeBench x = due.bench(3, new int[][] {{1}, {2}, {0}});
        due.is("reduce()", x.reduce(), 1);
        due.rref(x, new int[][] {{1}, {0}, {0}});
        due.transform(x, new int[][] {{1, 0, 0}, {1, 1, 0}, {0, 0, 1}});
    }

    private static void rowsEndBeforeColumns() {
        PrimeBench x = due.bench(7, new int[][] {{3, 5, 6}});
        due.is("reduce()", x.reduce(), 1);
        due.rref(x, new int[][] {{1, 4, 2}});
        due.transform(x, new int[][] {{5}});
    }

    private static void reducedTwice() {
        PrimeBench x = due.bench(5, new int[][] {{0, 2}, {3, 1}});
        due.is("reduce()", x.reduce(), 2);
        due.is("reduce() once more", x.reduce(), 2);
        due.is("rank()", x.rank(), 2);
        due.transform(x, new int[][] {{4, 2}, {3, 0}});
        due.is("det()", x.det(), 4);
    }

    private static void reducedAgainAfterSet() {
        PrimeBench x = due.bench(5, new int[][] {{0, 2}, {3, 1}});
        due.is("reduce()", x.reduce(), 2);
        due.is("set", x.set(1, 0, 0), true);
        due.is("reduce()", x.reduce(), 1);
        due.rref(x, new int[][] {{0, 1}, {0, 0}});
        due.transform(x, new int[][] {{3, 0}, {2, 1}});
        due.kernel(x, new int[][] {{1, 0}});
    }

    private static void largeNumbers() {
        PrimeBench x = due.bench(MAX, new int[][] {{MAX - 1, MAX - 2}, {MAX - 3, MAX - 1}});
        due.is("reduce()", x.reduce(), 2);
        // A is (-1 -2; -3 -1) with -5 as its determinant; 5 times 858993459 is 2 P + 1.
        long fifth = 858993459L;
        due.is("5 times the fifth", 5 * fifth % MAX, 1);
        int[][] wanted = {
            {(int) fifth, (int) (fifth * (MAX - 2) % MAX)},
            {(int) (fifth * (MAX - 3) % MAX), (int) fifth}};
        due.rref(x, new int[][] {{1, 0}, {0, 1}});
        due.transform(x, wanted);
        due.inverse(x, wanted);
        due.is("det()", x.det(), MAX - 5);
    }

    private static void noSuchNumber() {
        PrimeBench x = due.bench(7, new int[][] {{1, 2, 3}, {4, 5, 6}});
        due.is("reduce()", x.reduce(), 2);
        int[][] places = {{-1, 0}, {0, -1}, {2, 0}, {2, 2}, {0, 3}, {1, 3}, {MIN, 0}, {0, MIN}, {MAX, 0}, {0, MAX}};
        for (int[] place : places) {
            String name = "(" + place[0] + ", " + place[1] + ")";
            due.is("rrefAt" + name, x.rrefAt(place[0], place[1]), -1);
            due.is("transformAt" + name, x.transformAt(place[0], place[1]), -1);
        }
        due.is("rrefAt(1, 2)", x.rrefAt(1, 2), 2);
        due.is("transformAt(1, 2), T has as many columns as rows", x.transformAt(1, 2), -1);
        PrimeBench tall = due.bench(7, new int[][] {{1}, {1}});
        due.is("reduce()", tall.reduce(), 1);
        due.is("rrefAt(1, 1)", tall.rrefAt(1, 1), -1);
        due.is("transformAt(1, 1)", tall.transformAt(1, 1), 1);
    }
}
