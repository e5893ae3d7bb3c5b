/** Terms, DETERMINANT and INVERSE, and promises 9 and 10: det and inverseAt. */
public final class DetInverseTest {
    private static final Due due = new Due();

    public static void main(String[] args) {
        theProductOfThePivotsNumbers();
        theOtherSignForEachChangingOfPlaces();
        noOtherSignWithoutAChanging();
        zeroWithARankBelowN();
        detWhenNotReduced();
        detWhenMIsNotN();
        theInverseIsT();
        inverseOfOneNumber();
        inverseWhenNotReduced();
        noInverseWithARankBelowN();
        noInverseWhenMIsNotN();
        inverseOfNoPlace();
        due.end();
    }

    /** Ones in these columns, row by row. */
    private static int[][] order(int... columns) {
        int[][] rows = new int[columns.length][columns.length];
        for (int i = 0; i < columns.length; i++) {
            rows[i][columns[i]] = 1;
        }
        return rows;
    }

    /** The number on the slant from the first to the last place, for the first ones of n rows. */
    private static int[][] slant(int n, int number, int howMany) {
        int[][] rows = new int[n][n];
        for (int k = 0; k < howMany; k++) {
            rows[k][k] = number;
        }
        return rows;
    }

    private static void theProductOfThePivotsNumbers() {
        due.sentence("Terms: 'the product of what the pivots' numbers were before they became 1'");
        int power = 1;
        for (int n = 1; n <= 10; n++) {
            power = power * 3 % 101;
            due.is("det() of " + n + " threes", due.reduced(101, slant(n, 3, n), n).det(), power);
        }
        PrimeBench x = due.reduced(7, new int[][] {{2, 1}, {3, 6}}, 2);
        due.is("det() of (2 1; 3 6)", x.det(), 2);
        // 3 * 4 is 12, 1 modulo 11: the product is of numbers modulo P.
        due.is("det() of (3 0; 0 4)", due.reduced(11, new int[][] {{3, 0}, {0, 4}}, 2).det(), 1);
    }

    private static void theOtherSignForEachChangingOfPlaces() {
        due.sentence("Terms: 'with the other sign for each changing of places of two rows'");
        due.is("det() with one changing", due.reduced(11, order(1, 0, 2), 3).det(), 10);
        due.is("det() with one changing, of rows apart", due.reduced(11, order(2, 1, 0), 3).det(), 10);
        due.is("det() with two changings", due.reduced(11, order(1, 2, 0), 3).det(), 1);
        due.is("det() with two changings", due.reduced(11, order(2, 0, 1), 3).det(), 1);
        due.is("det() with three changings", due.reduced(11, order(1, 2, 3, 0), 4).det(), 10);
        due.is("det() with five changings", due.reduced(11, order(9, 8, 7, 6, 5, 4, 3, 2, 1, 0), 10).det(), 10);
        due.is("det() with nine changings", due.reduced(11, order(1, 2, 3, 4, 5, 6, 7, 8, 9, 0), 10).det(), 10);
        due.is("det() of (0 2; 3 4)", due.reduced(11, new int[][] {{0, 2}, {3, 4}}, 2).det(), 5);
        due.is("det() modulo 2, where the signs are one", due.reduced(2, order(1, 0), 2).det(), 1);
        PrimeBench again = due.reduced(11, order(1, 0), 2);
        due.is("reduce() once more", again.reduce(), 2);
        due.is("det(), the sign of one reducing alone", again.det(), 10);
    }

    private static void noOtherSignWithoutAChanging() {
        due.sentence("Terms: 'each changing of places of two rows', a row in its place changes with none");
        due.is("det() of one row", due.reduced(11, order(0), 1).det(), 1);
        due.is("det() of three rows", due.reduced(11, order(0, 1, 2), 3).det(), 1);
        due.is("det() of three rows full of numbers",
            due.reduced(11, new int[][] {{1, 2, 3}, {4, 5, 6}, {7, 8, 10}}, 3).det(), 8);
    }

    private static void zeroWithARankBelowN() {
        due.sentence("Terms: '0 with a rank below N'");
        for (int n = 1; n <= 10; n++) {
            for (int rank = 0; rank < n; rank++) {
                due.is("det() with N " + n, due.reduced(7, slant(n, 2, rank), rank).det(), 0);
            }
            due.is("det() with N and rank " + n, due.reduced(7, slant(n, 1, n), n).det(), 1);
        }
        due.is("det() of (1 2; 2 4)", due.reduced(7, new int[][] {{1, 2}, {2, 4}}, 1).det(), 0);
        due.is("det() of (0 1; 0 0)", due.reduced(7, new int[][] {{0, 1}, {0, 0}}, 1).det(), 0);
    }

    private static void detWhenNotReduced() {
        due.sentence("Promise 9: '-1 when it is not reduced'");
        PrimeBench x = due.bench(7, new int[][] {{3}});
        due.is("det() before reduce()", x.det(), -1);
        due.is("reduce()", x.reduce(), 1);
        due.is("det()", x.det(), 3);
        due.is("set", x.set(0, 0, 0), true);
        due.is("det() after set", x.det(), -1);
        due.is("reduce()", x.reduce(), 0);
        due.is("det()", x.det(), 0);
        due.is("det() of a new object", new PrimeBench(7, 10, 10).det(), -1);
    }

    private static void detWhenMIsNotN() {
        due.sentence("Promise 9: '-1 when .. M is not N.'");
        for (int m = 1; m <= 10; m++) {
            for (int n = 1; n <= 10; n++) {
                PrimeBench x = new PrimeBench(7, m, n);
                due.is("reduce()", x.reduce(), 0);
                due.is("det() of zeros with M " + m + " and N " + n, x.det(), m == n ? 0 : -1);
            }
        }
        due.is("det() of (1 0 3; 0 1 2)", due.reduced(7, new int[][] {{1, 0, 3}, {0, 1, 2}}, 2).det(), -1);
        due.is("det() of (1 0; 0 1; 3 2)", due.reduced(7, new int[][] {{1, 0}, {0, 1}, {3, 2}}, 2).det(), -1);
    }

    private static void theInverseIsT() {
        due.sentence("Terms: 'The INVERSE, with the rank N, is T.'");
        PrimeBench x = due.reduced(11, new int[][] {{0, 2}, {3, 4}}, 2);
        due.inverse(x, new int[][] {{3, 4}, {6, 0}});
        due.transform(x, new int[][] {{3, 4}, {6, 0}});
        due.inverse(due.reduced(11, order(1, 2, 0), 3), order(2, 0, 1));
        due.inverse(due.reduced(2, new int[][] {{0, 1}, {1, 1}}, 2), new int[][] {{1, 1}, {1, 0}});
        due.inverse(due.reduced(7, slant(10, 2, 10), 10), slant(10, 4, 10));
    }

    private static void inverseOfOneNumber() {
        due.sentence("Promise 10: 'A number of the inverse', of one number");
        for (int number = 1; number < 13; number++) {
            PrimeBench x = due.reduced(13, new int[][] {{number}}, 1);
            due.is("inverseAt(0, 0) times " + number, x.inverseAt(0, 0) * number % 13, 1);
        }
    }

    private static void inverseWhenNotReduced() {
        due.sentence("Promise 10: '-1 when it is not reduced'");
        PrimeBench x = due.bench(7, new int[][] {{3}});
        due.is("inverseAt(0, 0) before reduce()", x.inverseAt(0, 0), -1);
        due.is("reduce()", x.reduce(), 1);
        due.is("inverseAt(0, 0)", x.inverseAt(0, 0), 5);
        due.is("set", x.set(0, 0, 3), true);
        due.is("inverseAt(0, 0) after set", x.inverseAt(0, 0), -1);
        due.is("reduce()", x.reduce(), 1);
        due.is("inverseAt(0, 0)", x.inverseAt(0, 0), 5);
    }

    private static void noInverseWithARankBelowN() {
        due.sentence("Promise 10: '-1 when .. there is no inverse'");
        PrimeBench x = due.reduced(7, new int[][] {{1, 2}, {2, 4}}, 1);
        due.inverse(x, new int[][] {{-1, -1}, {-1, -1}});
        due.transform(x, new int[][] {{1, 0}, {5, 1}});
        for (int n = 1; n <= 10; n++) {
            PrimeBench oneLess = due.reduced(7, slant(n, 1, n - 1), n - 1);
            due.is("inverseAt(0, 0) with N " + n, oneLess.inverseAt(0, 0), -1);
            due.is("inverseAt of the last place with N " + n, oneLess.inverseAt(n - 1, n - 1), -1);
            PrimeBench zero = new PrimeBench(7, n, n);
            due.is("reduce()", zero.reduce(), 0);
            due.is("inverseAt(0, 0) of zeros with N " + n, zero.inverseAt(0, 0), -1);
        }
    }

    private static void noInverseWhenMIsNotN() {
        due.sentence("Promise 10: '-1 when .. there is no inverse', there being other rows than columns");
        PrimeBench wide = due.reduced(7, new int[][] {{1, 0, 3}, {0, 1, 2}}, 2);
        due.inverse(wide, new int[][] {{-1, -1, -1}, {-1, -1, -1}, {-1, -1, -1}});
        // The rank is N here, but what is not as long as broad has no inverse.
        PrimeBench tall = due.reduced(7, new int[][] {{1, 0}, {0, 1}, {3, 2}}, 2);
        due.inverse(tall, new int[][] {{-1, -1, -1}, {-1, -1, -1}, {-1, -1, -1}});
    }

    private static void inverseOfNoPlace() {
        due.sentence("Promise 10: '-1 when .. no such number.'");
        for (int n = 1; n <= 10; n++) {
            PrimeBench x = due.reduced(7, slant(n, 2, n), n);
            due.noneBeside("inverseAt", n, n, x::inverseAt);
            due.is("inverseAt of the first place", x.inverseAt(0, 0), 4);
            due.is("inverseAt of the last place", x.inverseAt(n - 1, n - 1), 4);
        }
    }
}
