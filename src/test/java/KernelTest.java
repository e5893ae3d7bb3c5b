/** Terms, KERNEL, and promises 13 and 14: kernelDim and kernelAt. */
public final class KernelTest {
    private static final int MAX = Integer.MAX_VALUE;
    private static final Due due = new Due();

    public static void main(String[] args) {
        eachFreeColumnInOrder();
        oneThereAndZeroForOtherFreeColumns();
        theRightSideIsNotAsked();
        nLessTheRank();
        kernelDimWhenNotReduced();
        kernelAtWhenNotReduced();
        noSuchX();
        noSuchNumber();
        due.end();
    }

    private static void eachFreeColumnInOrder() {
        due.sentence("Terms: 'for each free column in order'");
        PrimeBench x = due.reduced(5, new int[][] {{0, 1, 2, 0, 3}, {0, 0, 0, 1, 4}}, 2);
        due.kernel(x, new int[][] {{1, 0, 0, 0, 0}, {0, 3, 1, 0, 0}, {0, 2, 0, 1, 1}, {-1, -1, -1, -1, -1}});
        PrimeBench last = due.reduced(5, new int[][] {{0, 0, 2}}, 1);
        due.kernel(last, new int[][] {{1, 0, 0}, {0, 1, 0}, {-1, -1, -1}});
    }

    private static void oneThereAndZeroForOtherFreeColumns() {
        due.sentence("Terms: 'that x with 1 there and 0 for other free columns with which A x is 0'");
        PrimeBench x = due.reduced(7, new int[][] {{1, 2, 3}}, 1);
        due.kernel(x, new int[][] {{5, 1, 0}, {4, 0, 1}});
        // What stands in a pivot's row is 0, 1 or P - 1: of 0 the negative is 0, not P.
        PrimeBench edges = due.reduced(7, new int[][] {{1, 0, 1, 6}}, 1);
        due.kernel(edges, new int[][] {{0, 1, 0, 0}, {6, 0, 1, 0}, {1, 0, 0, 1}});
        PrimeBench two = due.reduced(2, new int[][] {{1, 1, 0}, {0, 0, 1}}, 2);
        due.kernel(two, new int[][] {{1, 1, 0}, {-1, -1, -1}});
        PrimeBench zero = new PrimeBench(2, 10, 10);
        due.is("reduce()", zero.reduce(), 0);
        for (int k = 0; k < 10; k++) {
            for (int j = 0; j < 10; j++) {
                due.is("kernelAt(" + k + ", " + j + ")", zero.kernelAt(k, j), k == j ? 1 : 0);
            }
        }
    }

    private static void theRightSideIsNotAsked() {
        due.sentence("Terms: 'with which A x is 0', whatever b is");
        PrimeBench x = due.reduced(7, new int[][] {{1, 2}, {2, 4}}, 1);
        due.rightSide(x, 1, 1);
        due.is("solvable()", x.solvable(), false);
        due.is("kernelDim()", x.kernelDim(), 1);
        due.kernel(x, new int[][] {{5, 1}, {-1, -1}});
    }

    private static void nLessTheRank() {
        due.sentence("Promise 13: 'N less the rank'");
        for (int m = 1; m <= 10; m++) {
            for (int n = 1; n <= 10; n++) {
                PrimeBench x = new PrimeBench(MAX, m, n);
                due.is("reduce()", x.reduce(), 0);
                due.is("kernelDim() of zeros", x.kernelDim(), n);
                for (int rank = 1; rank <= Math.min(m, n); rank++) {
                    due.is("set", x.set(rank - 1, rank - 1, MAX - 1), true);
                    due.is("reduce()", x.reduce(), rank);
                    due.is("kernelDim()", x.kernelDim(), n - rank);
                }
            }
        }
    }

    private static void kernelDimWhenNotReduced() {
        due.sentence("Promise 13: '-1 when it is not reduced.'");
        PrimeBench x = new PrimeBench(7, 1, 2);
        due.is("kernelDim() of a new object", x.kernelDim(), -1);
        due.is("reduce()", x.reduce(), 0);
        due.is("kernelDim()", x.kernelDim(), 2);
        due.is("setRhs", x.setRhs(0, 1), true);
        due.is("kernelDim()", x.kernelDim(), 2);
        due.is("set", x.set(0, 0, 1), true);
        due.is("kernelDim() after set", x.kernelDim(), -1);
        due.is("reduce()", x.reduce(), 1);
        due.is("kernelDim()", x.kernelDim(), 1);
        due.is("kernelDim() of full rank", due.reduced(7, new int[][] {{1}, {2}}, 1).kernelDim(), 0);
    }

    private static void kernelAtWhenNotReduced() {
        due.sentence("Promise 14: '-1 when it is not reduced'");
        PrimeBench x = due.bench(7, new int[][] {{0, 1}});
        due.kernel(x, new int[][] {{-1, -1}, {-1, -1}});
        due.is("reduce()", x.reduce(), 1);
        due.kernel(x, new int[][] {{1, 0}, {-1, -1}});
        due.is("set", x.set(0, 1, 1), true);
        due.kernel(x, new int[][] {{-1, -1}, {-1, -1}});
    }

    private static void noSuchX() {
        due.sentence("Promise 14: 'the k-th x (0 the first) of the kernel; -1 when .. there is none such.'");
        // The kernel of so many free columns: its last x is there, the next one is not.
        for (int n = 1; n <= 10; n++) {
            for (int rank = 0; rank <= n; rank++) {
                PrimeBench x = new PrimeBench(7, 10, n);
                for (int k = 0; k < rank; k++) {
                    due.is("set", x.set(k, k, 3), true);
                }
                due.is("reduce()", x.reduce(), rank);
                String size = " with N " + n + " and rank " + rank;
                due.is("kernelAt of the last x" + size, x.kernelAt(n - rank - 1, n - 1), rank == n ? -1 : 1);
                due.is("kernelAt behind the last x" + size, x.kernelAt(n - rank, n - 1), -1);
                due.is("kernelAt behind the last x, its first number" + size, x.kernelAt(n - rank, 0), -1);
                due.is("kernelAt before the first x" + size, x.kernelAt(-1, n - 1), -1);
            }
        }
        PrimeBench none = due.reduced(5, new int[][] {{1, 2}, {3, 3}, {1, 1}}, 2);
        due.kernel(none, new int[][] {{-1, -1}, {-1, -1}});
        due.noneBeside("kernelAt of no kernel", 0, 2, none::kernelAt);
    }

    private static void noSuchNumber() {
        due.sentence("Promise 14: 'Number j of the k-th x (0 the first) of the kernel; -1 when .. none such.'");
        PrimeBench x = due.reduced(7, new int[][] {{1, 2, 3}}, 1);
        due.noneBeside("kernelAt", 2, 3, x::kernelAt);
        due.kernel(x, new int[][] {{5, 1, 0}, {4, 0, 1}});
        PrimeBench zero = new PrimeBench(7, 1, 10);
        due.is("reduce()", zero.reduce(), 0);
        due.noneBeside("kernelAt", 10, 10, zero::kernelAt);
        due.is("kernelAt(9, 9)", zero.kernelAt(9, 9), 1);
        due.is("kernelAt(0, 0)", zero.kernelAt(0, 0), 1);
    }
}
