/** A matrix and a right side modulo a prime, reduced with what is done to the rows kept. */
public final class PrimeBench {
    private static final int MOST_ROWS_OR_COLUMNS = 10;
    private static final int NONE = -1;

    private final int prime;
    // An invalid object has no rows and no columns, so that no place in it can be found.
    private final int rows;
    private final int columns;
    private final int[] matrix;
    private final int[] rightSide;

    // Each row of R with its row of T behind it: what is done to the one is done to the other.
    private final int[] work;
    private final int workWidth;
    // For each column the row of its pivot, NONE for a free column.
    private final int[] pivotRows;

    private boolean isReduced;
    private int pivots;
    private long pivotProduct;

    public PrimeBench(int p, int m, int n) {
        boolean valid = isSide(m) && isSide(n) && isPrime(p);
        prime = p;
        rows = valid ? m : 0;
        columns = valid ? n : 0;
        workWidth = columns + rows;
        matrix = new int[rows * columns];
        rightSide = new int[rows];
        work = new int[rows * workWidth];
        pivotRows = new int[columns];
        isReduced = false;
        pivots = 0;
        pivotProduct = 1;
    }

    public boolean set(int i, int j, int x) {
        if (!isRow(i) || !isColumn(j) || x < 0) {
            return false;
        }
        matrix[i * columns + j] = x % prime;
        isReduced = false;
        return true;
    }

    public int get(int i, int j) {
        if (!isRow(i) || !isColumn(j)) {
            return NONE;
        }
        return matrix[i * columns + j];
    }

    public boolean setRhs(int i, int x) {
        if (!isRow(i) || x < 0) {
            return false;
        }
        rightSide[i] = x % prime;
        return true;
    }

    public int reduce() {
        if (rows == 0) {
            return NONE;
        }
        startWork();
        for (int column = 0; column < columns && pivots < rows; column++) {
            reduceColumn(column);
        }
        isReduced = true;
        return pivots;
    }

    public int rank() {
        return isReduced ? pivots : NONE;
    }

    public int rrefAt(int i, int j) {
        if (!isReduced || !isRow(i) || !isColumn(j)) {
            return NONE;
        }
        return work[i * workWidth + j];
    }

    public int transformAt(int i, int j) {
        if (!isReduced || !isRow(i) || !isRow(j)) {
            return NONE;
        }
        return transformNumber(i, j);
    }

    public int det() {
        if (!isReduced || rows != columns) {
            return NONE;
        }
        return pivots < columns ? 0 : (int) pivotProduct;
    }

    public int inverseAt(int i, int j) {
        if (!hasInverse() || !isRow(i) || !isRow(j)) {
            return NONE;
        }
        return transformNumber(i, j);
    }

    public boolean solvable() {
        if (!isReduced) {
            return false;
        }
        for (int row = pivots; row < rows; row++) {
            if (changedRightSide(row) != 0) {
                return false;
            }
        }
        return true;
    }

    public int solution(int j) {
        if (!isColumn(j) || !solvable()) {
            return NONE;
        }
        int row = pivotRows[j];
        return row == NONE ? 0 : changedRightSide(row);
    }

    public int kernelDim() {
        return isReduced ? columns - pivots : NONE;
    }

    public int kernelAt(int k, int j) {
        if (!isReduced || !isColumn(j)) {
            return NONE;
        }
        int free = freeColumn(k);
        if (free == NONE) {
            return NONE;
        }
        int row = pivotRows[j];
        if (row == NONE) {
            return j == free ? 1 : 0;
        }
        return (int) negative(work[row * workWidth + free]);
    }

    private static boolean isSide(int length) {
        return length >= 1 && length <= MOST_ROWS_OR_COLUMNS;
    }

    private static boolean isPrime(int number) {
        if (number < 2 || number % 2 == 0) {
            return number == 2;
        }
        // The square is a long: behind 46340 it is no int any more.
        for (int divisor = 3; (long) divisor * divisor <= number; divisor += 2) {
            if (number % divisor == 0) {
                return false;
            }
        }
        return true;
    }

    private boolean isRow(int i) {
        return i >= 0 && i < rows;
    }

    private boolean isColumn(int j) {
        return j >= 0 && j < columns;
    }

    private boolean hasInverse() {
        return isReduced && rows == columns && pivots == columns;
    }

    private int transformNumber(int i, int j) {
        return work[i * workWidth + columns + j];
    }

    private void startWork() {
        for (int row = 0; row < rows; row++) {
            for (int column = 0; column < columns; column++) {
                work[row * workWidth + column] = matrix[row * columns + column];
            }
            for (int column = 0; column < rows; column++) {
                work[row * workWidth + columns + column] = row == column ? 1 : 0;
            }
        }
        for (int column = 0; column < columns; column++) {
            pivotRows[column] = NONE;
        }
        pivots = 0;
        pivotProduct = 1;
    }

    private void reduceColumn(int column) {
        int found = firstRowLeft(column);
        if (found == NONE) {
            return;
        }
        int pivotRow = pivots;
        if (found != pivotRow) {
            changePlaces(found, pivotRow);
            pivotProduct = negative(pivotProduct);
        }
        int number = work[pivotRow * workWidth + column];
        pivotProduct = pivotProduct * number % prime;
        multiplyRow(pivotRow, inverseOf(number));
        for (int row = 0; row < rows; row++) {
            if (row != pivotRow) {
                takeRow(pivotRow, work[row * workWidth + column], row);
            }
        }
        pivotRows[column] = pivotRow;
        pivots++;
    }

    private int firstRowLeft(int column) {
        for (int row = pivots; row < rows; row++) {
            if (work[row * workWidth + column] != 0) {
                return row;
            }
        }
        return NONE;
    }

    private void changePlaces(int one, int other) {
        for (int place = 0; place < workWidth; place++) {
            int kept = work[one * workWidth + place];
            work[one * workWidth + place] = work[other * workWidth + place];
            work[other * workWidth + place] = kept;
        }
    }

    private void multiplyRow(int row, long factor) {
        for (int place = 0; place < workWidth; place++) {
            int at = row * workWidth + place;
            work[at] = (int) (work[at] * factor % prime);
        }
    }

    private void takeRow(int taken, int times, int from) {
        // The negative is added, so that nothing below 0 comes before the remainder.
        long factor = negative(times);
        for (int place = 0; place < workWidth; place++) {
            int at = from * workWidth + place;
            work[at] = (int) ((work[at] + factor * work[taken * workWidth + place]) % prime);
        }
    }

    private long negative(long number) {
        return number == 0 ? 0 : prime - number;
    }

    /** The number to the power P - 2, which times the number is 1 (Fermat), for numbers other than 0. */
    private long inverseOf(int number) {
        long power = 1;
        long square = number;
        for (int exponent = prime - 2; exponent > 0; exponent >>= 1) {
            if ((exponent & 1) == 1) {
                power = power * square % prime;
            }
            square = square * square % prime;
        }
        return power;
    }

    /** Number row of T b: b may be set after the reducing, so it is changed only when asked for. */
    private int changedRightSide(int row) {
        long sum = 0;
        for (int place = 0; place < rows; place++) {
            sum = (sum + (long) transformNumber(row, place) * rightSide[place]) % prime;
        }
        return (int) sum;
    }

    /** The k-th column without a pivot, NONE when there are not so many. */
    private int freeColumn(int k) {
        int seen = 0;
        for (int column = 0; column < columns; column++) {
            if (pivotRows[column] == NONE) {
                if (seen == k) {
                    return column;
                }
                seen++;
            }
        }
        return NONE;
    }
}
