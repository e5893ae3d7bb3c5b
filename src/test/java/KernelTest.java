/** Promises 13 and 14: kernelDim and kernelAt. */
public final class KernelTest {
    private static final int MAX = Integer.MAX_VALUE;
    private static final int MIN = Integer.MIN_VALUE;
    private static final Due due = new Due();

    public static void main(String[] args) {
        notReduced();
        freeColumnsInOrder();
        noKernel();
        allIsKernel();
        largeNumbers();
        noSuchNumber();
        due.end();
    }

    private static void notReduced() {
        PrimeBench x = new PrimeBench(7, 1, 2);
        due.is("kernelDim()", x.kernelDim(), -1);
        due.is("kernelAt(0, 0)", x.kernelAt(0, 0), -1);
        x.reduce();
        due.is("kernelDim()", x.kernelDim(), 2);
        x.set(0, 0, 1);
        due.is("kernelDim()", x.kernelDim(), -1);
        due.is("kernelAt(0, 0)", x.kernelAt(0, 0), -1);
    }

    private static void freeColumnsInOrder() {
        PrimeBench x = due.bench(5, new int[][] {{0, 1, 2, 0, 3}, {0, 0, 0, 1, 4}});
        due.rightSide(x, 1, 1);
        x.reduce();
        due.is("kernelDim()", x.kernelDim(), 3);
        due.kernel(x, new int[][] {{1, 0, 0, 0, 0}, {0, 3, 1, 0, 0}, {0, 2, 0, 1, 1}, {-1, -1, -1, -1, -1}});
    }

    private static void noKernel() {
        PrimeBench x = due.bench(5, new int[][] {{1, 2}, {3, 3}, {1, 1}});
        x.reduce();
        due.is("kernelDim()", x.kernelDim(), 0);
        due.kernel(x, new int[][] {{-1, -1}, {-1, -1}});
    }

    private static void allIsKernel() {
        PrimeBench x = new PrimeBench(2, 10, 10);
        x.reduce();
        due.is("kernelDim()", x.kernelDim(), 10);
        for (int k = 0; k < 10; k++) {
            for (int j = 0; j < 10; j++) {
                due.is("kernelAt(" + k + ", " + j + ")", x.kernelAt(k, j), k == j ? 1 : 0);
            }
        }
    }

    private static void largeNumbers() {
        PrimeBench x = due.bench(MAX, new int[][] {{MAX - 1, 1, MAX - 1, 0}});
        x.reduce();
        due.is("kernelDim()", x.kernelDim(), 3);
        due.kernel(x, new int[][] {{1, 1, 0, 0}, {MAX - 1, 0, 1, 0}, {0, 0, 0, 1}});
    }

    private static void noSuchNumber() {
        PrimeBench x = due.bench(7, new int[][] {{1, 2, 3}});
        x.reduce();
        int[][] places = {{-1, 0}, {0, -1}, {2, 0}, {0, 3}, {1, 3}, {3, 0}, {MIN, 0}, {0, MIN}, {MAX, 0}, {0, MAX},
            {-1, -1}};
        for (int[] place : places) {
            due.is("kernelAt(" + place[0] + ", " + place[1] + ")", x.kernelAt(place[0], place[1]), -1);
        }
        due.kernel(x, new int[][] {{5, 1, 0}, {4, 0, 1}});
    }
}
