import java.math.BigInteger;
import java.util.Random;

/** What the answers mean, told without any reducing: products of rows, sums over orders, trying every x. */
public final class MeaningTest {
    private static final int[] PRIMES = {2, 3, 5, 65537, Integer.MAX_VALUE};
    private static final Due due = new Due();
    private static final Random random = new Random(7L);

    public static void main(String[] args) {
        for (int run = 0; run < 400; run++) {
            int p = PRIMES[run % PRIMES.length];
            products(p, 1 + random.nextInt(10), 1 + random.nextInt(10));
            determinant(p, 1 + random.nextInt(6));
        }
        for (int run = 0; run < 200; run++) {
            everyX(2 + random.nextInt(2), 1 + random.nextInt(4), 1 + random.nextInt(5));
        }
        due.end();
    }

    private static PrimeBench filled(int p, int m, int n) {
        PrimeBench x = new PrimeBench(p, m, n);
        boolean sparse = random.nextBoolean();
        for (int i = 0; i < m; i++) {
            for (int j = 0; j < n; j++) {
                x.set(i, j, sparse && random.nextInt(3) != 0 ? 0 : random.nextInt(p));
            }
        }
        return x;
    }

    private static int times(int[] one, int[] other, int p) {
        BigInteger sum = BigInteger.ZERO;
        for (int k = 0; k < one.length; k++) {
            sum = sum.add(BigInteger.valueOf(one[k]).multiply(BigInteger.valueOf(other[k])));
        }
        return sum.mod(BigInteger.valueOf(p)).intValueExact();
    }

    private static int[] row(PrimeBench x, int i, int n) {
        int[] numbers = new int[n];
        for (int j = 0; j < n; j++) {
            numbers[j] = x.get(i, j);
        }
        return numbers;
    }

    private static int[] column(PrimeBench x, int j, int m) {
        int[] numbers = new int[m];
        for (int i = 0; i < m; i++) {
            numbers[i] = x.get(i, j);
        }
        return numbers;
    }

    private static void products(int p, int m, int n) {
        PrimeBench x = filled(p, m, n);
        int[] b = new int[m];
        int[] hidden = new int[n];
        for (int j = 0; j < n; j++) {
            hidden[j] = random.nextInt(p);
        }
        for (int i = 0; i < m; i++) {
            b[i] = times(row(x, i, n), hidden, p);
            x.setRhs(i, b[i]);
        }
        int rank = x.reduce();
        for (int i = 0; i < m; i++) {
            int[] t = new int[m];
            int[] inverse = new int[m];
            for (int k = 0; k < m; k++) {
                t[k] = x.transformAt(i, k);
                inverse[k] = x.inverseAt(i, k);
            }
            for (int j = 0; j < n; j++) {
                due.is("T A is R", times(t, column(x, j, m), p), x.rrefAt(i, j));
                if (m == n && rank == n) {
                    due.is("the inverse times A", times(inverse, column(x, j, m), p), i == j ? 1 : 0);
                }
            }
        }
        due.is("solvable()", x.solvable(), true);
        int[] solution = new int[n];
        for (int j = 0; j < n; j++) {
            solution[j] = x.solution(j);
        }
        for (int i = 0; i < m; i++) {
            due.is("A x is b", times(row(x, i, n), solution, p), b[i]);
        }
        for (int k = 0; k < x.kernelDim(); k++) {
            int[] zero = new int[n];
            for (int j = 0; j < n; j++) {
                zero[j] = x.kernelAt(k, j);
            }
            for (int i = 0; i < m; i++) {
                due.is("A x is 0", times(row(x, i, n), zero, p), 0);
            }
        }
    }

    private static void determinant(int p, int n) {
        PrimeBench x = filled(p, n, n);
        x.reduce();
        BigInteger sum = overOrders(x, n, 0, new boolean[n]);
        due.is("det()", x.det(), sum.mod(BigInteger.valueOf(p)).intValueExact());
    }

    private static BigInteger overOrders(PrimeBench x, int n, int i, boolean[] used) {
        if (i == n) {
            return BigInteger.ONE;
        }
        BigInteger sum = BigInteger.ZERO;
        int before = 0;
        for (int j = 0; j < n; j++) {
            if (!used[j]) {
                used[j] = true;
                BigInteger part = overOrders(x, n, i + 1, used).multiply(BigInteger.valueOf(x.get(i, j)));
                sum = before % 2 == 0 ? sum.add(part) : sum.subtract(part);
                used[j] = false;
                before++;
            }
        }
        return sum;
    }

    private static void everyX(int p, int m, int n) {
        PrimeBench x = filled(p, m, n);
        int[] b = new int[m];
        for (int i = 0; i < m; i++) {
            b[i] = random.nextInt(p);
            x.setRhs(i, b[i]);
        }
        int all = power(p, n);
        int zeros = 0;
        boolean found = false;
        for (int code = 0; code < all; code++) {
            int[] tried = digits(code, p, n);
            boolean isB = true;
            boolean isZero = true;
            for (int i = 0; i < m; i++) {
                int product = times(row(x, i, n), tried, p);
                isB &= product == b[i];
                isZero &= product == 0;
            }
            found |= isB;
            zeros += isZero ? 1 : 0;
        }
        int rank = x.reduce();
        due.is("solvable()", x.solvable(), found);
        due.is("P to the power kernelDim()", power(p, x.kernelDim()), zeros);
        due.is("P to the power N - reduce()", power(p, n - rank), zeros);
    }

    private static int power(int p, int exponent) {
        int product = 1;
        for (int k = 0; k < exponent; k++) {
            product *= p;
        }
        return product;
    }

    private static int[] digits(int code, int p, int n) {
        int[] numbers = new int[n];
        for (int j = 0; j < n; j++) {
            numbers[j] = code % p;
            code /= p;
        }
        return numbers;
    }
}
