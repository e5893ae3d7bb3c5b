/** Promise 1, and INVALID: which P, M and N there are, and what an object of others answers. */
public final class NewObjectTest {
    private static final int MAX = Integer.MAX_VALUE;
    private static final int MIN = Integer.MIN_VALUE;
    private static final Due due = new Due();

    public static void main(String[] args) {
        newObjectsAreZero();
        everySizeStands();
        primesAreValid();
        otherNumbersAreInvalid();
        otherSizesAreInvalid();
        smallNumbersAgainstASieve();
        objectsAreApart();
        due.end();
    }

    private static void newObjectsAreZero() {
        PrimeBench x = new PrimeBench(7, 2, 3);
        due.matrix(x, new int[][] {{0, 0, 0}, {0, 0, 0}});
        due.notReduced(x);
        due.is("reduce()", x.reduce(), 0);
        due.is("rank()", x.rank(), 0);
        due.rref(x, new int[][] {{0, 0, 0}, {0, 0, 0}});
        due.transform(x, new int[][] {{1, 0}, {0, 1}});
        due.is("solvable() of b of zeros", x.solvable(), true);
        due.solution(x, 0, 0, 0);
        due.is("kernelDim()", x.kernelDim(), 3);
        due.kernel(x, new int[][] {{1, 0, 0}, {0, 1, 0}, {0, 0, 1}});
    }

    private static void everySizeStands() {
        for (int m = 1; m <= 10; m++) {
            for (int n = 1; n <= 10; n++) {
                PrimeBench x = new PrimeBench(3, m, n);
                String size = " with " + m + " rows and " + n + " columns";
                due.is("set of the last place" + size, x.set(m - 1, n - 1, 2), true);
                due.is("set behind the last row" + size, x.set(m, n - 1, 2), false);
                due.is("set behind the last column" + size, x.set(m - 1, n, 2), false);
                due.is("setRhs of the last number" + size, x.setRhs(m - 1, 1), true);
                due.is("setRhs behind the last number" + size, x.setRhs(m, 1), false);
                due.is("reduce()" + size, x.reduce(), 1);
                due.is("solution" + size, x.solution(n - 1), 2);
                due.is("kernelDim()" + size, x.kernelDim(), n - 1);
                due.is("transformAt" + size, x.transformAt(0, m - 1), 2);
                due.is("transformAt behind" + size, x.transformAt(0, m), -1);
            }
        }
    }

    private static void primesAreValid() {
        int[] primes = {2, 3, 5, 7, 11, 46337, 46349, 65537, 1000000007, 2147483587, 2147483629, MAX};
        for (int p : primes) {
            PrimeBench x = new PrimeBench(p, 1, 1);
            due.is("get with P " + p, x.get(0, 0), 0);
            due.is("set with P " + p, x.set(0, 0, p - 1), true);
            due.is("reduce with P " + p, x.reduce(), 1);
            due.is("det with P " + p, x.det(), p - 1);
            due.is("inverseAt with P " + p, x.inverseAt(0, 0), p - 1);
        }
    }

    private static void otherNumbersAreInvalid() {
        // 2147117569 is 46337 * 46337, the last square of a prime; 561 and 2047 look prime to some tests.
        int[] others = {MIN, MIN + 1, -7, -3, -2, -1, 0, 1, 4, 6, 8, 9, 15, 25, 49, 561, 2047, 65536,
            46337 * 46337, 46327 * 46337, 2147483643, 2147483645, MAX - 1};
        for (int p : others) {
            invalid("P " + p, new PrimeBench(p, 2, 2));
        }
    }

    private static void otherSizesAreInvalid() {
        int[] others = {MIN, -10, -1, 0, 11, 12, 65536, MAX};
        for (int size : others) {
            invalid("M " + size, new PrimeBench(5, size, 2));
            invalid("N " + size, new PrimeBench(5, 2, size));
            invalid("M and N " + size, new PrimeBench(5, size, size));
            invalid("P, M and N " + size, new PrimeBench(size, size, size));
        }
    }

    private static void invalid(String why, PrimeBench x) {
        due.is("reduce() of a new object with " + why, x.reduce(), -1);
        for (int i = -1; i <= 11; i++) {
            due.is("setRhs with " + why, x.setRhs(i, 1), false);
            for (int j = -1; j <= 11; j++) {
                due.is("set with " + why, x.set(i, j, 1), false);
                due.is("get with " + why, x.get(i, j), -1);
            }
        }
        due.notReduced(x);
        due.is("reduce() with " + why, x.reduce(), -1);
        due.notReduced(x);
    }

    private static void smallNumbersAgainstASieve() {
        boolean[] composite = new boolean[3000];
        for (int p = 2; p < composite.length; p++) {
            due.is("get with P " + p, new PrimeBench(p, 1, 1).get(0, 0), composite[p] ? -1 : 0);
            for (int q = 2 * p; q < composite.length; q += p) {
                composite[q] = true;
            }
        }
    }

    private static void objectsAreApart() {
        PrimeBench one = new PrimeBench(7, 1, 1);
        PrimeBench other = new PrimeBench(7, 1, 1);
        one.set(0, 0, 3);
        one.reduce();
        due.is("get of the other object", other.get(0, 0), 0);
        due.is("rank of the other object", other.rank(), -1);
    }
}
