import java.math.BigInteger;
import java.util.function.ToIntFunction;

/** What it is, Terms and promise 1: 512 calls, which P, M and N there are, what is INVALID, and new objects. */
public final class LimitsTest {
    private static final int MAX = Integer.MAX_VALUE;
    private static final int MIN = Integer.MIN_VALUE;
    private static final int MOST_CALLS = 512;
    private static final int[][] INVALID = {
        {1, 2, 2}, {0, 2, 2}, {-1, 2, 2}, {-7, 2, 2}, {4, 2, 2}, {MIN, 2, 2}, {MAX - 1, 2, 2},
        {7, 0, 2}, {7, 11, 2}, {7, -1, 2}, {7, MIN, 2}, {7, MAX, 2},
        {7, 2, 0}, {7, 2, 11}, {7, 2, -1}, {7, 2, MIN}, {7, 2, MAX},
        {7, 1 << 16, 1 << 16}, {7, -2, -2}, {7, 0, 0}, {7, 11, 11}, {0, 10, 10},
        {MAX, MAX, MAX}, {MIN, MIN, MIN}, {0, 0, 0}, {-1, -1, -1}};
    private static final Due due = new Due();

    public static void main(String[] args) {
        eachMethodAsThe512thCall();
        allOfTheLargestObjectIn512Calls();
        the511thCallChangesThe512th();
        greatestPrimes();
        smallestPrimes();
        numbersRoundTheRoot();
        rowsAndColumnsFrom1To10();
        rightSideOfMNumbers();
        rightSideIsZeroAtFirst();
        nothingCanBeSetInAnInvalidObject();
        everyAnswerOfAnInvalidObject();
        oneWrongNumberIsEnough();
        newObjectsAreZero();
        newObjectsAreNotReduced();
        objectsAreApart();
        due.end();
    }

    /** An object after so many calls, seven or more, the last of them reduce(). */
    private static PrimeBench asked(int calls) {
        PrimeBench x = due.bench(5, new int[][] {{0, 2}, {3, 1}});
        due.rightSide(x, 4, 4);
        for (int call = 7; call <= calls; call++) {
            due.is("reduce() as call " + call, x.reduce(), 2);
        }
        return x;
    }

    private static void the512th(String call, ToIntFunction<PrimeBench> answer, int want) {
        due.is(call + " as call 512", answer.applyAsInt(asked(MOST_CALLS - 1)), want);
    }

    private static void eachMethodAsThe512thCall() {
        due.sentence("What it is: 'An object is used for at most 512 calls after it has been made'");
        the512th("set(1, 1, 4)", x -> x.set(1, 1, 4) ? 1 : 0, 1);
        the512th("set(2, 1, 4)", x -> x.set(2, 1, 4) ? 1 : 0, 0);
        the512th("get(1, 0)", x -> x.get(1, 0), 3);
        the512th("setRhs(1, 4)", x -> x.setRhs(1, 4) ? 1 : 0, 1);
        the512th("setRhs(1, -1)", x -> x.setRhs(1, -1) ? 1 : 0, 0);
        the512th("reduce()", PrimeBench::reduce, 2);
        the512th("rank()", PrimeBench::rank, 2);
        the512th("rrefAt(1, 1)", x -> x.rrefAt(1, 1), 1);
        the512th("transformAt(0, 1)", x -> x.transformAt(0, 1), 2);
        the512th("det()", PrimeBench::det, 4);
        the512th("inverseAt(1, 0)", x -> x.inverseAt(1, 0), 3);
        the512th("solvable()", x -> x.solvable() ? 1 : 0, 1);
        the512th("solution(1)", x -> x.solution(1), 2);
        the512th("kernelDim()", PrimeBench::kernelDim, 0);
        the512th("kernelAt(0, 0)", x -> x.kernelAt(0, 0), -1);
    }

    /** -1 in the whole first row, and rows of ones and zeros below: its own inverse. */
    private static int ofItsOwnInverse(int i, int j) {
        if (i == 0) {
            return MAX - 1;
        }
        return i == j ? 1 : 0;
    }

    private static void allOfTheLargestObjectIn512Calls() {
        due.sentence("What it is: 'at most 512 calls', all of them used on the largest object");
        PrimeBench x = new PrimeBench(MAX, 10, 10);
        int calls = 0;
        for (int place = 0; place < 100; place++) {
            due.is("set", x.set(place / 10, place % 10, ofItsOwnInverse(place / 10, place % 10)), true);
            calls++;
        }
        for (int i = 0; i < 10; i++) {
            due.is("setRhs", x.setRhs(i, i), true);
            calls++;
        }
        due.is("reduce()", x.reduce(), 10);
        calls++;
        for (int place = 0; place < 100; place++) {
            int i = place / 10;
            int j = place % 10;
            due.is("get", x.get(i, j), ofItsOwnInverse(i, j));
            due.is("rrefAt", x.rrefAt(i, j), i == j ? 1 : 0);
            due.is("transformAt", x.transformAt(i, j), ofItsOwnInverse(i, j));
            due.is("inverseAt", x.inverseAt(i, j), ofItsOwnInverse(i, j));
            calls += 4;
        }
        due.is("det() as the last call", x.det(), MAX - 1);
        calls++;
        due.is("how many calls there were", calls, MOST_CALLS);
    }

    private static void the511thCallChangesThe512th() {
        due.sentence("What it is: 'at most 512 calls', the 511th one changing what the 512th one answers");
        PrimeBench set = asked(MOST_CALLS - 2);
        due.is("set(0, 0, 1) as call 511", set.set(0, 0, 1), true);
        due.is("rank() as call 512", set.rank(), -1);
        PrimeBench got = asked(MOST_CALLS - 2);
        due.is("set(0, 0, 1) as call 511", got.set(0, 0, 1), true);
        due.is("get(0, 0) as call 512", got.get(0, 0), 1);
        PrimeBench side = asked(MOST_CALLS - 2);
        due.is("setRhs(0, 2) as call 511", side.setRhs(0, 2), true);
        due.is("solution(0) as call 512", side.solution(0), 1);
        PrimeBench again = asked(MOST_CALLS - 3);
        due.is("set(1, 0, 0) as call 510", again.set(1, 0, 0), true);
        due.is("reduce() as call 511", again.reduce(), 1);
        due.is("kernelDim() as call 512", again.kernelDim(), 1);
    }

    private static void isValidIfPrime(int p) {
        boolean prime = p > 1 && BigInteger.valueOf(p).isProbablePrime(60);
        due.is("get(0, 0) with P " + p, new PrimeBench(p, 1, 1).get(0, 0), prime ? 0 : -1);
    }

    private static void greatestPrimes() {
        due.sentence("Terms: 'P is a prime below 2^31', the greatest ones");
        due.is("get(0, 0) with P 2^31 - 1", new PrimeBench(MAX, 1, 1).get(0, 0), 0);
        due.is("get(0, 0) with P 2^31 - 2", new PrimeBench(MAX - 1, 1, 1).get(0, 0), -1);
        due.is("get(0, 0) with P 2^31 - 3, 5 times 429496729", new PrimeBench(MAX - 2, 1, 1).get(0, 0), -1);
        due.is("get(0, 0) with P 2^31 - 19", new PrimeBench(MAX - 18, 1, 1).get(0, 0), 0);
        for (int down = 0; down < 400; down++) {
            isValidIfPrime(MAX - down);
        }
        // What 2^31 and the numbers behind it would be as ints.
        for (int up = 0; up < 400; up++) {
            due.is("get(0, 0) with P MIN + " + up, new PrimeBench(MIN + up, 1, 1).get(0, 0), -1);
        }
    }

    private static void smallestPrimes() {
        due.sentence("Terms: 'P is a prime', the smallest ones");
        due.is("get(0, 0) with P 2", new PrimeBench(2, 1, 1).get(0, 0), 0);
        due.is("get(0, 0) with P 1", new PrimeBench(1, 1, 1).get(0, 0), -1);
        due.is("get(0, 0) with P 0", new PrimeBench(0, 1, 1).get(0, 0), -1);
        due.is("get(0, 0) with P -1", new PrimeBench(-1, 1, 1).get(0, 0), -1);
        due.is("get(0, 0) with P -2", new PrimeBench(-2, 1, 1).get(0, 0), -1);
        for (int p = -3000; p < 3000; p++) {
            isValidIfPrime(p);
        }
    }

    private static void numbersRoundTheRoot() {
        due.sentence("Terms: 'P is a prime', and products of two primes near the root of 2^31 are none");
        for (int p = 46200; p < 46500; p++) {
            isValidIfPrime(p);
        }
        int[] products = {46337 * 46337, 46327 * 46337, 46309 * 46337, 46327 * 46349, 3 * 715827881, 65537 * 32749};
        for (int p : products) {
            due.is("get(0, 0) with P " + p, new PrimeBench(p, 1, 1).get(0, 0), -1);
        }
    }

    private static void rowsAndColumnsFrom1To10() {
        due.sentence("Terms: 'the MATRIX A has M rows and N columns (1 to 10 each)'");
        for (int m = -1; m <= 12; m++) {
            for (int n = -1; n <= 12; n++) {
                boolean valid = m >= 1 && m <= 10 && n >= 1 && n <= 10;
                PrimeBench x = new PrimeBench(7, m, n);
                String size = " with M " + m + " and N " + n;
                due.is("get(0, 0)" + size, x.get(0, 0), valid ? 0 : -1);
                due.is("set of the last place" + size, x.set(m - 1, n - 1, 3), valid);
                due.is("get of the last place" + size, x.get(m - 1, n - 1), valid ? 3 : -1);
                due.is("set one row on" + size, x.set(m, n - 1, 3), false);
                due.is("set one column on" + size, x.set(m - 1, n, 3), false);
                due.is("get one row on" + size, x.get(m, n - 1), -1);
                due.is("get one column on" + size, x.get(m - 1, n), -1);
                due.is("reduce()" + size, x.reduce(), valid ? 1 : -1);
                due.is("kernelDim()" + size, x.kernelDim(), valid ? n - 1 : -1);
            }
        }
    }

    private static void rightSideOfMNumbers() {
        due.sentence("Terms: 'a RIGHT SIDE b of M numbers'");
        for (int m = 1; m <= 10; m++) {
            for (int n = 1; n <= 10; n++) {
                PrimeBench x = new PrimeBench(7, m, n);
                for (int i = -2; i <= 12; i++) {
                    due.is("setRhs(" + i + ", 0) with M " + m + " and N " + n, x.setRhs(i, 0), i >= 0 && i < m);
                }
            }
        }
    }

    private static void rightSideIsZeroAtFirst() {
        due.sentence("Terms: 'a RIGHT SIDE b of M numbers, all 0 at first'");
        PrimeBench square = due.reduced(7, new int[][] {{0, 2}, {3, 4}}, 2);
        due.is("solvable()", square.solvable(), true);
        due.solution(square, 0, 0);
        PrimeBench tall = due.reduced(7, new int[][] {{1}, {2}, {3}}, 1);
        due.is("solvable()", tall.solvable(), true);
        due.solution(tall, 0);
    }

    private static PrimeBench made(int[] numbers) {
        due.sentence("Terms: 'With another P, M or N it is INVALID: nothing can be set, and every answer is -1 (false)'"
            + ", PrimeBench(" + numbers[0] + ", " + numbers[1] + ", " + numbers[2] + ")");
        return new PrimeBench(numbers[0], numbers[1], numbers[2]);
    }

    private static void nothingCanBeSetInAnInvalidObject() {
        int[] places = {MIN, -1, 0, 1, 9, 10, MAX};
        for (int[] numbers : INVALID) {
            for (int number : new int[] {MIN, -1, 0, 1, MAX}) {
                PrimeBench x = made(numbers);
                for (int i : places) {
                    due.is("setRhs(" + i + ", " + number + ")", x.setRhs(i, number), false);
                    for (int j : places) {
                        due.is("set(" + i + ", " + j + ", " + number + ")", x.set(i, j, number), false);
                        due.is("get(" + i + ", " + j + ")", x.get(i, j), -1);
                    }
                }
            }
        }
    }

    private static void everyAnswerOfAnInvalidObject() {
        for (int[] numbers : INVALID) {
            PrimeBench x = made(numbers);
            due.notReduced(x);
            due.is("reduce()", x.reduce(), -1);
            due.notReduced(x);
            due.is("reduce() once more", x.reduce(), -1);
            due.is("rank()", x.rank(), -1);
        }
    }

    private static void oneWrongNumberIsEnough() {
        int[] ps = {2, MAX, 1, MAX - 1};
        int[] sizes = {1, 10, 0, 11};
        for (int p = 0; p < 4; p++) {
            for (int m = 0; m < 4; m++) {
                for (int n = 0; n < 4; n++) {
                    boolean valid = p < 2 && m < 2 && n < 2;
                    PrimeBench x = made(new int[] {ps[p], sizes[m], sizes[n]});
                    due.is("get(0, 0)", x.get(0, 0), valid ? 0 : -1);
                    due.is("set(0, 0, 1)", x.set(0, 0, 1), valid);
                    due.is("setRhs(0, 1)", x.setRhs(0, 1), valid);
                    due.is("reduce()", x.reduce(), valid ? 1 : -1);
                    due.is("solvable()", x.solvable(), valid);
                }
            }
        }
    }

    private static void newObjectsAreZero() {
        due.sentence("Promise 1: 'A of zeros'");
        for (int m = 1; m <= 10; m++) {
            for (int n = 1; n <= 10; n++) {
                PrimeBench x = new PrimeBench(7, m, n);
                due.matrix(x, new int[m][n]);
                due.is("reduce()", x.reduce(), 0);
                due.rref(x, new int[m][n]);
                due.is("kernelDim()", x.kernelDim(), n);
            }
        }
    }

    private static void newObjectsAreNotReduced() {
        due.sentence("Promise 1: 'not reduced.'");
        for (int p : new int[] {2, 7, MAX}) {
            for (int m = 1; m <= 10; m++) {
                for (int n = 1; n <= 10; n++) {
                    due.notReduced(new PrimeBench(p, m, n));
                }
            }
        }
    }

    private static void objectsAreApart() {
        due.sentence("Promise 1: a new object beside another one");
        PrimeBench one = due.reduced(7, new int[][] {{3}}, 1);
        PrimeBench other = new PrimeBench(7, 1, 1);
        due.is("get(0, 0)", other.get(0, 0), 0);
        due.is("rank()", other.rank(), -1);
        due.is("reduce()", other.reduce(), 0);
        due.is("rank() of the first one", one.rank(), 1);
        due.is("get(0, 0) of the first one", one.get(0, 0), 3);
    }
}
