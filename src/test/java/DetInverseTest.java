/** Promises 9 and 10: det and inverseAt. */
public final class DetInverseTest {
    private static final int MAX = Integer.MAX_VALUE;
    private static final int MIN = Integer.MIN_VALUE;
    private static final Due due = new Due();

    public static void main(String[] args) {
        oneNumber();
        signOfChangedPlaces();
        noInverseBelowTheFullRank();
        rowsAreNotColumns();
        modulo2();
        noSuchNumber();
        due.end();
    }

    private static void oneNumber() {
        for (int x = 0; x < 13; x++) {
            PrimeBench bench = due.bench(13, new int[][] {{x}});
            due.is("det() not reduced", bench.det(), -1);
            due.is("inverseAt(0, 0) not reduced", bench.inverseAt(0, 0), -1);
            bench.reduce();
            due.is("det() of " + x, bench.det(), x);
            int inverse = bench.inverseAt(0, 0);
            due.is("inverse of " + x, x == 0 ? inverse : inverse * x % 13, x == 0 ? -1 : 1);
        }
    }

    private static void signOfChangedPlaces() {
        PrimeBench none = due.bench(11, new int[][] {{1, 0, 0}, {0, 1, 0}, {0, 0, 1}});
        none.reduce();
        due.is("det() without a changing", none.det(), 1);
        PrimeBench one = due.bench(11, new int[][] {{0, 1, 0}, {1, 0, 0}, {0, 0, 1}});
        one.reduce();
        due.is("det() with one changing", one.det(), 10);
        due.inverse(one, new int[][] {{0, 1, 0}, {1, 0, 0}, {0, 0, 1}});
        PrimeBench two = due.bench(11, new int[][] {{0, 1, 0}, {0, 0, 1}, {1, 0, 0}});
        two.reduce();
        due.is("det() with two changings", two.det(), 1);
        due.inverse(two, new int[][] {{0, 0, 1}, {1, 0, 0}, {0, 1, 0}});
        PrimeBench numbers = due.bench(11, new int[][] {{0, 2}, {3, 4}});
        numbers.reduce();
        due.is("det() of (0 2; 3 4)", numbers.det(), 5);
        due.inverse(numbers, new int[][] {{3, 4}, {6, 0}});
    }

    private static void noInverseBelowTheFullRank() {
        PrimeBench x = due.bench(7, new int[][] {{1, 2}, {2, 4}});
        due.is("reduce()", x.reduce(), 1);
        due.is("det()", x.det(), 0);
        due.inverse(x, new int[][] {{-1, -1}, {-1, -1}});
        due.transform(x, new int[][] {{1, 0}, {5, 1}});
        PrimeBench zero = new PrimeBench(7, 10, 10);
        due.is("reduce()", zero.reduce(), 0);
        due.is("det()", zero.det(), 0);
        due.is("inverseAt(9, 9)", zero.inverseAt(9, 9), -1);
    }

    private static void rowsAreNotColumns() {
        PrimeBench wide = due.bench(7, new int[][] {{1, 0, 3}, {0, 1, 2}});
        due.is("reduce()", wide.reduce(), 2);
        due.is("det()", wide.det(), -1);
        due.is("inverseAt(0, 0)", wide.inverseAt(0, 0), -1);
        // The rank is N here, but rows of another length than the columns have no inverse.
        PrimeBench tall = due.bench(7, new int[][] {{1, 0}, {0, 1}, {3, 2}});
        due.is("reduce()", tall.reduce(), 2);
        due.is("det()", tall.det(), -1);
        due.is("inverseAt(0, 0)", tall.inverseAt(0, 0), -1);
        due.is("inverseAt(2, 2)", tall.inverseAt(2, 2), -1);
    }

    private static void modulo2() {
        PrimeBench x = due.bench(2, new int[][] {{0, 1}, {1, 1}});
        due.is("reduce()", x.reduce(), 2);
        due.is("det()", x.det(), 1);
        due.inverse(x, new int[][] {{1, 1}, {1, 0}});
    }

    private static void noSuchNumber() {
        PrimeBench x = due.bench(7, new int[][] {{1, 2}, {0, 3}});
        due.is("reduce()", x.reduce(), 2);
        int[][] places = {{-1, 0}, {0, -1}, {2, 0}, {0, 2}, {1, 2}, {MIN, 0}, {0, MIN}, {MAX, 0}, {0, MAX}};
        for (int[] place : places) {
            due.is("inverseAt(" + place[0] + ", " + place[1] + ")", x.inverseAt(place[0], place[1]), -1);
        }
        due.inverse(x, new int[][] {{1, 4}, {0, 5}});
    }
}
