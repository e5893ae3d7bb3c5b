import java.math.BigInteger;
import java.util.Random;

/** Terms: 'Sums and products are modulo P.', where they would leave an int or a long. */
public final class GreatPrimesTest {
    private static final int MAX = Integer.MAX_VALUE;
    private static final int[] GREATEST = greatest(10);
    private static final Due due = new Due();
    private static final Random random = new Random(31L);

    public static void main(String[] args) {
        for (int p : GREATEST) {
            due.sentence("Terms: 'Sums and products are modulo P', P " + p);
            numbersSet(p);
            inverses(p);
            ownInverse(p);
            allMinusOne(p);
            sumsOfProductsThatAreZero(p);
            signs(p);
            kernels(p);
            for (int run = 0; run < 30; run++) {
                besideTheModel(p, 1 + random.nextInt(10), 1 + random.nextInt(10));
                besideTheModel(p, 10, 10);
            }
        }
        due.end();
    }

    private static int[] greatest(int howMany) {
        int[] primes = new int[howMany];
        int found = 0;
        for (int p = MAX; found < howMany; p -= 2) {
            if (BigInteger.valueOf(p).isProbablePrime(60)) {
                primes[found] = p;
                found++;
            }
        }
        return primes;
    }

    private static void numbersSet(int p) {
        PrimeBench x = due.bench(p, new int[][] {{0, 1, p - 1, p, MAX - 1, MAX}});
        due.matrix(x, new int[][] {{0, 1, p - 1, 0, (int) ((MAX - 1L) % p), (int) ((long) MAX % p)}});
        PrimeBench one = due.reduced(p, new int[][] {{1}}, 1);
        for (int number : new int[] {0, 1, p - 1, p, MAX - 1, MAX}) {
            due.rightSide(one, number);
            due.is("solution(0) after " + number, one.solution(0), (long) number % p);
        }
    }

    private static void inverses(int p) {
        int[][] pairs = {{1, 1}, {p - 1, p - 1}, {2, p / 2 + 1}, {p / 2 + 1, 2}, {p - 2, p / 2}, {p / 2, p - 2}};
        for (int[] pair : pairs) {
            PrimeBench x = due.reduced(p, new int[][] {{pair[0]}}, 1);
            due.is("inverseAt(0, 0) of " + pair[0], x.inverseAt(0, 0), pair[1]);
            due.is("transformAt(0, 0) of " + pair[0], x.transformAt(0, 0), pair[1]);
            due.is("det() of " + pair[0], x.det(), pair[0]);
            due.rightSide(x, p - 1);
            due.is("solution(0) of " + pair[0], x.solution(0), p - pair[1]);
        }
    }

    /** A first row of -1, below it rows of ones and zeros: its own inverse, and each number of T b a sum of ten. */
    private static void ownInverse(int p) {
        int[][] rows = new int[10][10];
        int[][] ones = new int[10][10];
        for (int k = 0; k < 10; k++) {
            rows[k][k] = 1;
            ones[k][k] = 1;
        }
        java.util.Arrays.fill(rows[0], p - 1);
        PrimeBench x = due.reduced(p, rows, 10);
        due.rref(x, ones);
        due.inverse(x, rows);
        due.is("det()", x.det(), p - 1);
        int m = p - 1;
        due.rightSide(x, m, m, m, m, m, m, m, m, m, m);
        due.is("solvable()", x.solvable(), true);
        due.solution(x, 10, m, m, m, m, m, m, m, m, m);
    }

    /** -1 in each place on and above the slant: the products and sums of the reducing are the greatest. */
    private static void allMinusOne(int p) {
        for (int n = 1; n <= 10; n++) {
            int[][] rows = new int[n][n];
            int[][] inverse = new int[n][n];
            for (int i = 0; i < n; i++) {
                java.util.Arrays.fill(rows[i], i, n, p - 1);
                inverse[i][i] = p - 1;
                if (i + 1 < n) {
                    inverse[i][i + 1] = 1;
                }
            }
            PrimeBench x = due.reduced(p, rows, n);
            due.is("det() with N " + n, x.det(), n % 2 == 0 ? 1 : p - 1);
            due.inverse(x, inverse);
        }
    }

    /** The last row is the sum of the nine others: b is 0 there, if what it has is their sum, too. */
    private static void sumsOfProductsThatAreZero(int p) {
        int[][] rows = new int[10][9];
        for (int k = 0; k < 9; k++) {
            rows[k][k] = 1;
            rows[9][k] = 1;
        }
        PrimeBench x = due.reduced(p, rows, 9);
        int m = p - 1;
        due.rightSide(x, m, m, m, m, m, m, m, m, m, p - 9);
        due.is("solvable()", x.solvable(), true);
        due.solution(x, m, m, m, m, m, m, m, m, m);
        due.rightSide(x, m, m, m, m, m, m, m, m, m, p - 8);
        due.is("solvable() with one more", x.solvable(), false);
        due.solution(x, -1);
        due.rightSide(x, m, m, m, m, m, m, m, m, m, p - 10);
        due.is("solvable() with one less", x.solvable(), false);
    }

    private static void signs(int p) {
        PrimeBench x = due.reduced(p, new int[][] {{0, 1}, {1, 0}}, 2);
        due.is("det() of (0 1; 1 0)", x.det(), p - 1);
        PrimeBench minus = due.reduced(p, new int[][] {{0, p - 1}, {1, 0}}, 2);
        due.is("det() of (0 -1; 1 0)", minus.det(), 1);
        PrimeBench both = due.reduced(p, new int[][] {{0, p - 2}, {p - 3, 0}}, 2);
        due.is("det() of (0 -2; -3 0)", both.det(), p - 6);
        PrimeBench four = due.reduced(p, new int[][] {{p - 1, p - 2}, {p - 3, p - 1}}, 2);
        due.is("det() of (-1 -2; -3 -1)", four.det(), p - 5);
    }

    private static void kernels(int p) {
        PrimeBench x = due.reduced(p, new int[][] {{p - 1, 1, p - 1, 0}}, 1);
        due.kernel(x, new int[][] {{1, 1, 0, 0}, {p - 1, 0, 1, 0}, {0, 0, 0, 1}});
        PrimeBench half = due.reduced(p, new int[][] {{2, 1, p - 1}}, 1);
        due.rref(half, new int[][] {{1, p / 2 + 1, p / 2}});
        due.kernel(half, new int[][] {{p / 2, 1, 0}, {p / 2 + 1, 0, 1}});
    }

    private static void besideTheModel(int p, int m, int n) {
        PrimeBench x = new PrimeBench(p, m, n);
        Model y = new Model(p, m, n);
        for (int place = 0; place < m * n; place++) {
            int number = random.nextInt(4) == 0 ? random.nextInt(p) : p - 1 - random.nextInt(3);
            due.is("set", x.set(place / n, place % n, number), y.set(place / n, place % n, number));
        }
        for (int i = 0; i < m; i++) {
            int number = p - 1 - random.nextInt(3);
            due.is("setRhs", x.setRhs(i, number), y.setRhs(i, number));
        }
        due.is("reduce()", x.reduce(), y.reduce());
        due.is("det()", x.det(), y.det());
        due.is("solvable()", x.solvable(), y.solvable());
        for (int j = 0; j < n; j++) {
            due.is("solution(" + j + ")", x.solution(j), y.solution(j));
            for (int i = 0; i < m; i++) {
                due.is("rrefAt", x.rrefAt(i, j), y.rrefAt(i, j));
            }
            for (int k = 0; k < y.kernelDim(); k++) {
                due.is("kernelAt", x.kernelAt(k, j), y.kernelAt(k, j));
            }
        }
        for (int place = 0; place < m * m; place++) {
            due.is("transformAt", x.transformAt(place / m, place % m), y.transformAt(place / m, place % m));
        }
    }
}
