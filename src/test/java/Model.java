import java.math.BigInteger;

/** The document written down once more, in its own order and with numbers that have no limit. */
final class Model {
    private final BigInteger p;
    private final int m;
    private final int n;
    private final BigInteger[][] a;
    private final BigInteger[] b;
    private BigInteger[][] r;
    private BigInteger[][] t;
    private int[] pivotColumns;
    private int rank;
    private BigInteger product;

    Model(int p, int m, int n) {
        this.p = BigInteger.valueOf(p);
        this.m = m;
        this.n = n;
        a = zeros(m, n);
        b = zeros(1, m)[0];
    }

    private static BigInteger[][] zeros(int rows, int columns) {
        BigInteger[][] all = new BigInteger[rows][columns];
        for (BigInteger[] row : all) {
            java.util.Arrays.fill(row, BigInteger.ZERO);
        }
        return all;
    }

    private boolean isPlace(int i, int j, int rows, int columns) {
        return 0 <= i && i < rows && 0 <= j && j < columns;
    }

    boolean set(int i, int j, int x) {
        if (!isPlace(i, j, m, n) || x < 0) {
            return false;
        }
        a[i][j] = BigInteger.valueOf(x).mod(p);
        r = null;
        return true;
    }

    int get(int i, int j) {
        return isPlace(i, j, m, n) ? a[i][j].intValueExact() : -1;
    }

    boolean setRhs(int i, int x) {
        if (i < 0 || i >= m || x < 0) {
            return false;
        }
        b[i] = BigInteger.valueOf(x).mod(p);
        return true;
    }

    int reduce() {
        r = zeros(m, n);
        t = zeros(m, m);
        for (int i = 0; i < m; i++) {
            r[i] = a[i].clone();
            t[i][i] = BigInteger.ONE;
        }
        pivotColumns = new int[m];
        rank = 0;
        product = BigInteger.ONE;
        for (int column = 0; column < n && rank < m; column++) {
            int found = rank;
            while (found < m && r[found][column].signum() == 0) {
                found++;
            }
            if (found < m) {
                pivot(found, column);
            }
        }
        return rank;
    }

    private void pivot(int found, int column) {
        if (found != rank) {
            swap(r, found, rank);
            swap(t, found, rank);
            product = product.negate();
        }
        BigInteger number = r[rank][column];
        product = product.multiply(number).mod(p);
        add(r[rank], r[rank], number.modInverse(p).subtract(BigInteger.ONE));
        add(t[rank], t[rank], number.modInverse(p).subtract(BigInteger.ONE));
        for (int i = 0; i < m; i++) {
            if (i != rank) {
                BigInteger times = r[i][column].negate();
                add(r[i], r[rank], times);
                add(t[i], t[rank], times);
            }
        }
        pivotColumns[rank] = column;
        rank++;
    }

    private static void swap(BigInteger[][] rows, int one, int other) {
        BigInteger[] kept = rows[one];
        rows[one] = rows[other];
        rows[other] = kept;
    }

    private void add(BigInteger[] to, BigInteger[] row, BigInteger times) {
        for (int j = 0; j < to.length; j++) {
            to[j] = to[j].add(row[j].multiply(times)).mod(p);
        }
    }

    int rank() {
        return r == null ? -1 : rank;
    }

    int rrefAt(int i, int j) {
        return r != null && isPlace(i, j, m, n) ? r[i][j].intValueExact() : -1;
    }

    int transformAt(int i, int j) {
        return r != null && isPlace(i, j, m, m) ? t[i][j].intValueExact() : -1;
    }

    int det() {
        if (r == null || m != n) {
            return -1;
        }
        return rank < n ? 0 : product.mod(p).intValueExact();
    }

    int inverseAt(int i, int j) {
        return r != null && m == n && rank == n ? transformAt(i, j) : -1;
    }

    private BigInteger changed(int i) {
        BigInteger sum = BigInteger.ZERO;
        for (int j = 0; j < m; j++) {
            sum = sum.add(t[i][j].multiply(b[j]));
        }
        return sum.mod(p);
    }

    boolean solvable() {
        boolean all = r != null;
        for (int i = rank; all && i < m; i++) {
            all = changed(i).signum() == 0;
        }
        return all;
    }

    private int pivotRow(int column) {
        for (int i = 0; i < rank; i++) {
            if (pivotColumns[i] == column) {
                return i;
            }
        }
        return -1;
    }

    int solution(int j) {
        if (j < 0 || j >= n || !solvable()) {
            return -1;
        }
        return pivotRow(j) < 0 ? 0 : changed(pivotRow(j)).intValueExact();
    }

    int kernelDim() {
        return r == null ? -1 : n - rank;
    }

    int kernelAt(int k, int j) {
        if (r == null || !isPlace(k, j, n - rank, n)) {
            return -1;
        }
        int free = 0;
        for (int left = k; pivotRow(free) >= 0 || left > 0; free++) {
            left -= pivotRow(free) >= 0 ? 0 : 1;
        }
        if (pivotRow(j) < 0) {
            return j == free ? 1 : 0;
        }
        return r[pivotRow(j)][free].negate().mod(p).intValueExact();
    }
}
