import java.math.BigInteger;
import java.util.Random;

/** What the answers mean, told without any reducing: products of rows, sums over orders, trying every x. */
public final class MeaningTest {
    private static final int[] PRIMES = {2, 3, 5, 65537, Integer.MAX_VALUE};
    private static final Due due = new Due();
    private static final Random random = new Random(7L);

    public static void main(String[] args) {
        for (int run = 0; run < 400; run++) {
            int p = PRIMES[run % PRIMES.length];
            products(p, 1 + random.nextInt(10), 1 + random.nextInt(10));
            determinant(p, 1 + random.nextInt(6));
        }
        for (int run = 0; run < 200; run++) {
            everyX(2 + random.nextInt(2), 1 + random.nextInt(4), 1 + random.nextInt(5));
        }
        due.end();
    }

    private static int[][] numbers(int p, int m, int n) {
        int[][] rows = new int[m][n];
        boolean sparse = random.nextBoolean();
        for (int i = 0; i < m; i++) {
            for (int j = 0; j < n; j++) {
                rows[i][j] = sparse && random.nextInt(3) != 0 ? 0 : random.nextInt(p);
            }
        }
        return rows;
    }

    private static int times(int[] one, int[] other, int p) {
        BigInteger sum = BigInteger.ZERO;
        for (int k = 0; k < one.length; k++) {
            sum = sum.add(BigInteger.valueOf(one[k]).multiply(BigInteger.valueOf(other[k])));
        }
        return sum.mod(BigInteger.valueOf(p)).intValueExact();
    }

    private static int[] column(int[][] rows, int j) {
        int[] numbers = new int[rows.length];
        for (int i = 0; i < rows.length; i++) {
            numbers[i] = rows[i][j];
        }
        return numbers;
    }

    private static void products(int p, int m, int n) {
        int[][] a = numbers(p, m, n);
        PrimeBench x = due.bench(p, a);
        int rank = x.reduce();
        transformed(x, a, p, n);
        if (m == n && rank == n) {
            inverted(x, a, p);
        }
        solved(x, a, p, n);
        takenToZero(x, a, p, n);
    }

    private static void transformed(PrimeBench x, int[][] a, int p, int n) {
        for (int i = 0; i < a.length; i++) {
            int[] t = new int[a.length];
            for (int k = 0; k < a.length; k++) {
                t[k] = x.transformAt(i, k);
            }
            for (int j = 0; j < n; j++) {
                due.is("T A is R", times(t, column(a, j), p), x.rrefAt(i, j));
            }
        }
    }

    private static void inverted(PrimeBench x, int[][] a, int p) {
        for (int i = 0; i < a.length; i++) {
            int[] inverse = new int[a.length];
            for (int k = 0; k < a.length; k++) {
                inverse[k] = x.inverseAt(i, k);
            }
            for (int j = 0; j < a.length; j++) {
                due.is("the inverse times A", times(inverse, column(a, j), p), i == j ? 1 : 0);
            }
        }
    }

    /** A right side that some x gives is solvable, though the solution may be another x. */
    private static void solved(PrimeBench x, int[][] a, int p, int n) {
        int[] hidden = numbers(p, 1, n)[0];
        int[] b = new int[a.length];
        for (int i = 0; i < a.length; i++) {
            b[i] = times(a[i], hidden, p);
        }
        due.rightSide(x, b);
        due.is("solvable()", x.solvable(), true);
        int[] solution = new int[n];
        for (int j = 0; j < n; j++) {
            solution[j] = x.solution(j);
        }
        for (int i = 0; i < a.length; i++) {
            due.is("A x is b", times(a[i], solution, p), b[i]);
        }
    }

    private static void takenToZero(PrimeBench x, int[][] a, int p, int n) {
        int howMany = x.kernelDim();
        for (int k = 0; k < howMany; k++) {
            int[] zero = new int[n];
            for (int j = 0; j < n; j++) {
                zero[j] = x.kernelAt(k, j);
            }
            for (int[] row : a) {
                due.is("A x is 0", times(row, zero, p), 0);
            }
        }
    }

    private static void determinant(int p, int n) {
        int[][] a = numbers(p, n, n);
        PrimeBench x = due.bench(p, a);
        x.reduce();
        BigInteger sum = overOrders(a, 0, new boolean[n]);
        due.is("det()", x.det(), sum.mod(BigInteger.valueOf(p)).intValueExact());
    }

    private static BigInteger overOrders(int[][] a, int i, boolean[] used) {
        if (i == a.length) {
            return BigInteger.ONE;
        }
        BigInteger sum = BigInteger.ZERO;
        int before = 0;
        for (int j = 0; j < a.length; j++) {
            if (!used[j]) {
                used[j] = true;
                BigInteger part = overOrders(a, i + 1, used).multiply(BigInteger.valueOf(a[i][j]));
                sum = before % 2 == 0 ? sum.add(part) : sum.subtract(part);
                used[j] = false;
                before++;
            }
        }
        return sum;
    }

    private static void everyX(int p, int m, int n) {
        int[][] a = numbers(p, m, n);
        int[] b = numbers(p, 1, m)[0];
        int all = Due.power(p, n);
        int zeros = 0;
        boolean found = false;
        for (int code = 0; code < all; code++) {
            int[] tried = digits(code, p, n);
            boolean isB = true;
            boolean isZero = true;
            for (int i = 0; i < m; i++) {
                int product = times(a[i], tried, p);
                isB &= product == b[i];
                isZero &= product == 0;
            }
            found |= isB;
            zeros += isZero ? 1 : 0;
        }
        PrimeBench x = due.bench(p, a);
        due.rightSide(x, b);
        int rank = x.reduce();
        due.is("solvable()", x.solvable(), found);
        due.is("P to the power kernelDim()", Due.power(p, x.kernelDim()), zeros);
        due.is("P to the power N - reduce()", Due.power(p, n - rank), zeros);
    }

    private static int[] digits(int code, int p, int n) {
        int[] numbers = new int[n];
        for (int j = 0; j < n; j++) {
            numbers[j] = code % p;
            code /= p;
        }
        return numbers;
    }
}
