/** Terms, REDUCED, and promises 5 to 8: reduce, rank, rrefAt and transformAt. */
public final class ReduceTest {
    private static final int MAX = Integer.MAX_VALUE;
    private static final int[][] SIZES = {{1, 1}, {2, 3}, {3, 2}, {1, 10}, {10, 1}, {9, 10}, {10, 9}, {10, 10}};
    private static final Due due = new Due();

    public static void main(String[] args) {
        atFirstROfAAndTOfOnesAndZeros();
        columnsFromTheFirstOneOn();
        asLongAsThereAreRowsLeft();
        rowsWithAPivotAreNotLeft();
        theFirstRowWithANumberOtherThanZero();
        onToTheNextColumn();
        changesPlacesWithTheFirstRowLeft();
        multipliedByWhatMakesItOne();
        takenFromEachOtherRow();
        doneToRowsOfTToo();
        theRankIsHowManyPivots();
        reduceAnswersItsRank();
        reducedTwice();
        reducedAgainAfterSet();
        rankWhenNotReduced();
        rrefWhenNotReduced();
        rrefOfNoPlace();
        transformWhenNotReduced();
        transformOfNoPlace();
        due.end();
    }

    private static int[][] ones(int m, int n, int howMany) {
        int[][] rows = new int[m][n];
        for (int k = 0; k < howMany; k++) {
            rows[k][k] = 1;
        }
        return rows;
    }

    private static void atFirstROfAAndTOfOnesAndZeros() {
        due.sentence("Terms: 'R is A, and T the rows of ones and zeros with which T A is R'");
        for (int m = 1; m <= 10; m++) {
            PrimeBench zero = new PrimeBench(7, m, 3);
            due.is("reduce()", zero.reduce(), 0);
            due.rref(zero, new int[m][3]);
            due.transform(zero, ones(m, m, m));
        }
        PrimeBench already = due.reduced(7, new int[][] {{1, 0, 3}, {0, 1, 4}}, 2);
        due.rref(already, new int[][] {{1, 0, 3}, {0, 1, 4}});
        due.transform(already, ones(2, 2, 2));
    }

    private static void columnsFromTheFirstOneOn() {
        due.sentence("Terms: 'For each column from the first one on'");
        PrimeBench x = due.reduced(7, new int[][] {{1, 1, 1}}, 1);
        due.kernel(x, new int[][] {{6, 1, 0}, {6, 0, 1}});
        PrimeBench two = due.reduced(7, new int[][] {{1, 2, 3}, {1, 2, 4}}, 2);
        due.rref(two, new int[][] {{1, 2, 0}, {0, 0, 1}});
        due.transform(two, new int[][] {{4, 4}, {6, 1}});
    }

    private static void asLongAsThereAreRowsLeft() {
        due.sentence("Terms: 'as long as there are rows left'");
        PrimeBench one = due.reduced(7, new int[][] {{3, 5, 6}}, 1);
        due.rref(one, new int[][] {{1, 4, 2}});
        due.transform(one, new int[][] {{5}});
        due.is("kernelDim()", one.kernelDim(), 2);
        // The columns behind the last pivot are free, whatever stands in them.
        PrimeBench two = due.reduced(7, new int[][] {{1, 0, 5, 1}, {0, 1, 6, 0}}, 2);
        due.rref(two, new int[][] {{1, 0, 5, 1}, {0, 1, 6, 0}});
        due.is("kernelDim()", two.kernelDim(), 2);
        int[][] full = new int[1][10];
        java.util.Arrays.fill(full[0], 2);
        due.is("kernelDim() of one row", due.reduced(3, full, 1).kernelDim(), 9);
        // With as many pivots as columns there are rows left, but no columns.
        PrimeBench tall = due.reduced(3, new int[][] {{1}, {2}, {0}}, 1);
        due.rref(tall, new int[][] {{1}, {0}, {0}});
        due.transform(tall, new int[][] {{1, 0, 0}, {1, 1, 0}, {0, 0, 1}});
    }

    private static void rowsWithAPivotAreNotLeft() {
        due.sentence("Terms: 'the rows that are left (those behind the rows with a PIVOT)'");
        // Row 0 has a number in column 1, but it has a pivot already.
        PrimeBench x = due.reduced(7, new int[][] {{1, 5}, {0, 0}, {0, 2}}, 2);
        due.rref(x, new int[][] {{1, 0}, {0, 1}, {0, 0}});
        due.transform(x, new int[][] {{1, 0, 1}, {0, 0, 4}, {0, 1, 0}});
        PrimeBench none = due.reduced(7, new int[][] {{1, 5}, {0, 0}}, 1);
        due.rref(none, new int[][] {{1, 5}, {0, 0}});
        due.is("kernelDim()", none.kernelDim(), 1);
    }

    private static void theFirstRowWithANumberOtherThanZero() {
        due.sentence("Terms: 'the first one with a number other than 0 in that column'");
        // Not the row with the greatest number, nor the last one, nor one with a 1.
        PrimeBench x = due.reduced(7, new int[][] {{0}, {2}, {1}, {6}}, 1);
        due.transform(x, new int[][] {{0, 4, 0, 0}, {1, 0, 0, 0}, {0, 3, 1, 0}, {0, 4, 0, 1}});
        PrimeBench first = due.reduced(7, new int[][] {{2}, {1}}, 1);
        due.transform(first, new int[][] {{4, 0}, {3, 1}});
        PrimeBench last = due.reduced(7, new int[][] {{0}, {0}, {3}}, 1);
        due.transform(last, new int[][] {{0, 0, 5}, {0, 1, 0}, {1, 0, 0}});
        // 7 is 0 modulo 7.
        PrimeBench modulo = due.reduced(7, new int[][] {{7}, {1}}, 1);
        due.transform(modulo, new int[][] {{0, 1}, {1, 0}});
    }

    private static void onToTheNextColumn() {
        due.sentence("Terms: 'if there is none, on to the next column'");
        PrimeBench x = due.reduced(5, new int[][] {{0, 2, 4, 1}, {0, 1, 2, 0}}, 2);
        due.rref(x, new int[][] {{0, 1, 2, 0}, {0, 0, 0, 1}});
        due.transform(x, new int[][] {{0, 1}, {1, 3}});
        due.is("kernelDim()", x.kernelDim(), 2);
        PrimeBench last = due.reduced(5, new int[][] {{0, 0, 0}, {0, 0, 3}}, 1);
        due.rref(last, new int[][] {{0, 0, 1}, {0, 0, 0}});
        due.transform(last, new int[][] {{0, 2}, {1, 0}});
        PrimeBench far = new PrimeBench(5, 10, 10);
        due.is("set(9, 9, 2)", far.set(9, 9, 2), true);
        due.is("reduce()", far.reduce(), 1);
        due.is("rrefAt(0, 9)", far.rrefAt(0, 9), 1);
        due.is("transformAt(0, 9)", far.transformAt(0, 9), 3);
    }

    private static void changesPlacesWithTheFirstRowLeft() {
        due.sentence("Terms: 'It changes places with the first row that is left'");
        // The rows between keep their places.
        PrimeBench x = due.reduced(7, new int[][] {{0, 1}, {0, 2}, {0, 3}, {1, 0}}, 2);
        due.rref(x, new int[][] {{1, 0}, {0, 1}, {0, 0}, {0, 0}});
        due.transform(x, new int[][] {{0, 0, 0, 1}, {0, 4, 0, 0}, {0, 2, 1, 0}, {1, 3, 0, 0}});
        // The second pivot changes places with the second row, not with the first one.
        PrimeBench second = due.reduced(7, new int[][] {{1, 0}, {0, 0}, {0, 1}}, 2);
        due.transform(second, new int[][] {{1, 0, 0}, {0, 0, 1}, {0, 1, 0}});
    }

    private static void multipliedByWhatMakesItOne() {
        due.sentence("Terms: 'that is multiplied by what makes its number in the column 1, a pivot'");
        for (int p : new int[] {2, 3, 5, 7, 101}) {
            for (int number = 1; number < p; number++) {
                PrimeBench x = due.reduced(p, new int[][] {{number, number, 0}}, 1);
                due.rref(x, new int[][] {{1, 1, 0}});
                due.is("transformAt(0, 0) times " + number, x.transformAt(0, 0) * number % p, 1);
            }
        }
    }

    private static void takenFromEachOtherRow() {
        due.sentence("Terms: 'from each other row it is taken as often as its number in the column says'");
        PrimeBench x = due.reduced(7, new int[][] {{1, 3, 0, 2}, {0, 1, 0, 1}, {0, 4, 1, 6}}, 3);
        due.rref(x, new int[][] {{1, 0, 0, 6}, {0, 1, 0, 1}, {0, 0, 1, 2}});
        due.transform(x, new int[][] {{1, 4, 0}, {0, 1, 0}, {0, 3, 1}});
        // No times is as often as a 0 says, and P - 1 times as often as P - 1 says.
        PrimeBench edges = due.reduced(7, new int[][] {{1, 5}, {0, 0}, {6, 2}}, 1);
        due.rref(edges, new int[][] {{1, 5}, {0, 0}, {0, 0}});
        due.transform(edges, new int[][] {{1, 0, 0}, {0, 1, 0}, {1, 0, 1}});
    }

    private static void doneToRowsOfTToo() {
        due.sentence("Terms: 'All is done to rows of T, too.'");
        PrimeBench x = due.reduced(7, new int[][] {{0, 0}, {2, 1}, {3, 0}}, 2);
        due.rref(x, new int[][] {{1, 0}, {0, 1}, {0, 0}});
        due.transform(x, new int[][] {{0, 0, 5}, {0, 1, 4}, {1, 0, 0}});
        PrimeBench square = due.reduced(5, new int[][] {{0, 2}, {3, 1}}, 2);
        due.transform(square, new int[][] {{4, 2}, {3, 0}});
    }

    private static void theRankIsHowManyPivots() {
        due.sentence("Terms: 'The RANK is how many pivots there are. FREE columns have none.'");
        for (int m = 1; m <= 10; m++) {
            for (int n = 1; n <= 10; n++) {
                for (int rank = 0; rank <= Math.min(m, n); rank++) {
                    PrimeBench x = due.reduced(3, ones(m, n, rank), rank);
                    due.is("rank()", x.rank(), rank);
                    due.is("kernelDim(), as many as free columns", x.kernelDim(), n - rank);
                    due.rref(x, ones(m, n, rank));
                }
            }
        }
    }

    private static void reduceAnswersItsRank() {
        due.sentence("Promise 5: 'A is REDUCED: its rank.'");
        due.is("reduce() of zeros", new PrimeBench(2, 1, 1).reduce(), 0);
        due.is("reduce() of zeros", new PrimeBench(MAX, 10, 10).reduce(), 0);
        PrimeBench full = due.bench(MAX, ones(10, 10, 10));
        due.notReduced(full);
        due.is("reduce()", full.reduce(), 10);
        due.is("rank()", full.rank(), 10);
        int[][] equal = {{1, 2, 3}, {1, 2, 3}, {2, 4, 6}};
        PrimeBench one = due.reduced(7, equal, 1);
        due.is("rank()", one.rank(), 1);
        due.matrix(one, equal);
        // The same rows have another rank with another P: 1 * 3 - 1 * 1 is 2.
        due.reduced(2, new int[][] {{1, 1}, {1, 3}}, 1);
        due.reduced(3, new int[][] {{1, 1}, {1, 3}}, 2);
    }

    private static void reducedTwice() {
        due.sentence("Promise 5: 'A is REDUCED', and once more");
        PrimeBench x = due.reduced(5, new int[][] {{0, 2}, {3, 1}}, 2);
        due.is("reduce() once more", x.reduce(), 2);
        due.is("rank()", x.rank(), 2);
        due.transform(x, new int[][] {{4, 2}, {3, 0}});
        due.is("det()", x.det(), 4);
        due.is("kernelDim()", x.kernelDim(), 0);
    }

    private static void reducedAgainAfterSet() {
        due.sentence("Promise 5: 'A is REDUCED', after another number was set");
        PrimeBench x = due.reduced(5, new int[][] {{0, 2}, {3, 1}}, 2);
        due.is("set", x.set(1, 0, 0), true);
        due.is("reduce()", x.reduce(), 1);
        due.rref(x, new int[][] {{0, 1}, {0, 0}});
        due.transform(x, new int[][] {{3, 0}, {2, 1}});
        due.is("det()", x.det(), 0);
        due.kernel(x, new int[][] {{1, 0}});
        due.is("set", x.set(1, 0, 3), true);
        due.is("reduce()", x.reduce(), 2);
        due.transform(x, new int[][] {{4, 2}, {3, 0}});
    }

    private static void rankWhenNotReduced() {
        due.sentence("Promise 6: 'The rank; -1 when it is not reduced.'");
        PrimeBench x = new PrimeBench(7, 2, 2);
        due.is("rank() of a new object", x.rank(), -1);
        due.is("set", x.set(0, 0, 1), true);
        due.is("rank() after set", x.rank(), -1);
        due.is("setRhs", x.setRhs(0, 1), true);
        due.is("rank() after setRhs", x.rank(), -1);
        due.is("reduce()", x.reduce(), 1);
        due.is("rank()", x.rank(), 1);
        due.is("rank() once more", x.rank(), 1);
        due.is("set", x.set(0, 0, 0), true);
        due.is("rank() after set", x.rank(), -1);
        due.is("reduce()", x.reduce(), 0);
        due.is("rank() of zeros", x.rank(), 0);
    }

    private static void rrefWhenNotReduced() {
        due.sentence("Promise 7: 'A number of R; -1 when it is not reduced'");
        PrimeBench x = due.bench(7, new int[][] {{2, 4}, {1, 2}});
        due.rref(x, new int[][] {{-1, -1}, {-1, -1}});
        due.is("reduce()", x.reduce(), 1);
        due.rref(x, new int[][] {{1, 2}, {0, 0}});
        due.is("set", x.set(1, 1, 2), true);
        due.rref(x, new int[][] {{-1, -1}, {-1, -1}});
    }

    private static void rrefOfNoPlace() {
        due.sentence("Promise 7: '-1 when .. there is none.'");
        for (int[] size : SIZES) {
            int m = size[0];
            int n = size[1];
            PrimeBench x = due.reduced(7, ones(m, n, Math.min(m, n)), Math.min(m, n));
            due.noneBeside("rrefAt", m, n, x::rrefAt);
            due.is("rrefAt of the last place", x.rrefAt(m - 1, n - 1), m == n ? 1 : 0);
            due.is("rrefAt of the first place", x.rrefAt(0, 0), 1);
        }
    }

    private static void transformWhenNotReduced() {
        due.sentence("Promise 8: 'A number of T (M rows and columns); -1 when it is not reduced'");
        PrimeBench x = due.bench(7, new int[][] {{2, 4}, {1, 2}});
        due.transform(x, new int[][] {{-1, -1}, {-1, -1}});
        due.is("reduce()", x.reduce(), 1);
        due.transform(x, new int[][] {{4, 0}, {3, 1}});
        due.is("set", x.set(1, 1, 2), true);
        due.transform(x, new int[][] {{-1, -1}, {-1, -1}});
    }

    private static void transformOfNoPlace() {
        due.sentence("Promise 8: 'A number of T (M rows and columns); -1 when .. there is none.'");
        for (int[] size : SIZES) {
            int m = size[0];
            int n = size[1];
            PrimeBench x = due.reduced(7, ones(m, n, 1), 1);
            due.noneBeside("transformAt", m, m, x::transformAt);
            due.transform(x, ones(m, m, m));
        }
    }
}
