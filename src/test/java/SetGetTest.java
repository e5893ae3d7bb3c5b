/** Promises 2, 3 and 4: set, get and setRhs. */
public final class SetGetTest {
    private static final int MAX = Integer.MAX_VALUE;
    private static final int MIN = Integer.MIN_VALUE;
    private static final int[][] ROWS = {{1, 2, 3}, {4, 5, 6}};
    private static final Due due = new Due();

    public static void main(String[] args) {
        theNumberIsModuloP();
        zeroAreTheFirstOnes();
        setEndsTheReducing();
        setOfNoPlace();
        setBelowZero();
        aFalseSetKeepsTheReducing();
        aFalseSetDoesNotReduce();
        getOfNoPlace();
        getIsOfTheMatrixWhenReduced();
        rightSideIsModuloP();
        setRhsKeepsTheReducing();
        setRhsDoesNotReduce();
        setRhsOfNoNumber();
        setRhsBelowZero();
        due.end();
    }

    private static void theNumberIsModuloP() {
        due.sentence("Promise 2: 'The number in row i, column j (0 the first ones) is x modulo P'");
        int[][] pairs = {{0, 0}, {6, 6}, {7, 0}, {8, 1}, {13, 6}, {14, 0}, {100, 2}, {MAX - 1, 0}, {MAX, 1}};
        for (int[] pair : pairs) {
            PrimeBench x = new PrimeBench(7, 1, 1);
            due.is("set(0, 0, " + pair[0] + ")", x.set(0, 0, pair[0]), true);
            due.is("get(0, 0) after " + pair[0], x.get(0, 0), pair[1]);
        }
        PrimeBench two = due.bench(2, new int[][] {{0, 1, 2, 3, MAX - 1, MAX}});
        due.matrix(two, new int[][] {{0, 1, 0, 1, 0, 1}});
        PrimeBench great = due.bench(MAX, new int[][] {{0, 1, MAX - 1, MAX}});
        due.matrix(great, new int[][] {{0, 1, MAX - 1, 0}});
    }

    private static void zeroAreTheFirstOnes() {
        due.sentence("Promise 2: 'in row i, column j (0 the first ones)', each place of its own");
        for (int[] size : new int[][] {{3, 10}, {10, 3}, {10, 10}, {1, 10}, {10, 1}}) {
            int[][] rows = new int[size[0]][size[1]];
            for (int place = 0; place < size[0] * size[1]; place++) {
                rows[place / size[1]][place % size[1]] = place + 1;
            }
            due.matrix(due.bench(101, rows), rows);
        }
    }

    private static void setEndsTheReducing() {
        due.sentence("Promise 2: 'A is not reduced any more: true.'");
        PrimeBench other = due.reduced(5, new int[][] {{1, 2}, {3, 4}}, 2);
        due.is("set to another number", other.set(1, 0, 2), true);
        due.notReduced(other);
        PrimeBench same = due.reduced(5, new int[][] {{1, 2}, {3, 4}}, 2);
        due.is("set to the same number", same.set(1, 0, 3), true);
        due.notReduced(same);
        PrimeBench modulo = due.reduced(5, new int[][] {{1, 2}, {3, 4}}, 2);
        due.is("set to the same number modulo P", modulo.set(1, 1, 9), true);
        due.notReduced(modulo);
        PrimeBench zero = new PrimeBench(5, 10, 10);
        due.is("reduce()", zero.reduce(), 0);
        due.is("set of the last place to 0", zero.set(9, 9, 0), true);
        due.notReduced(zero);
    }

    private static void setOfNoPlace() {
        due.sentence("Promise 2: 'False, and nothing, when there is no such place'");
        for (int number : new int[] {0, 9, MAX}) {
            PrimeBench x = due.bench(11, ROWS);
            due.noneBeside("set", 2, 3, (i, j) -> x.set(i, j, number) ? 1 : -1);
            due.matrix(x, ROWS);
        }
    }

    private static void setBelowZero() {
        due.sentence("Promise 2: 'False, and nothing, when .. x is below 0'");
        PrimeBench x = due.bench(11, ROWS);
        for (int number : new int[] {-1, -2, -10, -11, -12, MIN, MIN + 1, -MAX + 1}) {
            for (int place = 0; place < 6; place++) {
                due.is("set to " + number, x.set(place / 3, place % 3, number), false);
            }
            due.is("set of no place to " + number, x.set(2, 0, number), false);
        }
        due.matrix(x, ROWS);
        due.is("set to 0, the smallest that is not below 0", x.set(0, 0, 0), true);
        due.is("get(0, 0)", x.get(0, 0), 0);
    }

    private static void aFalseSetKeepsTheReducing() {
        due.sentence("Promise 2: 'False, and nothing', of a matrix that is reduced");
        PrimeBench x = due.reduced(5, new int[][] {{1, 2}, {3, 4}}, 2);
        due.is("set below 0", x.set(0, 0, -1), false);
        due.is("rank()", x.rank(), 2);
        due.is("set below 0", x.set(1, 1, MIN), false);
        due.is("rank()", x.rank(), 2);
        due.noneBeside("set", 2, 2, (i, j) -> x.set(i, j, 1) ? 1 : -1);
        due.is("rank()", x.rank(), 2);
        due.matrix(x, new int[][] {{1, 2}, {3, 4}});
        due.rref(x, new int[][] {{1, 0}, {0, 1}});
        due.inverse(x, new int[][] {{3, 1}, {4, 2}});
        due.is("det()", x.det(), 3);
    }

    private static void aFalseSetDoesNotReduce() {
        due.sentence("Promise 2: 'False, and nothing', of a matrix that is not reduced");
        PrimeBench x = due.bench(5, new int[][] {{1, 2}, {3, 4}});
        due.is("set below 0", x.set(0, 0, -1), false);
        due.is("set of no place", x.set(2, 0, 1), false);
        due.notReduced(x);
    }

    private static void getOfNoPlace() {
        due.sentence("Promise 3: '-1 when there is none.'");
        for (int[] size : new int[][] {{2, 3}, {3, 2}, {1, 1}, {10, 10}, {1, 10}, {10, 1}}) {
            int m = size[0];
            int n = size[1];
            PrimeBench x = new PrimeBench(11, m, n);
            due.is("set of the last place", x.set(m - 1, n - 1, 4), true);
            due.noneBeside("get", m, n, x::get);
            due.is("get of the last place", x.get(m - 1, n - 1), 4);
            due.is("reduce()", x.reduce(), 1);
            due.noneBeside("get of what is reduced", m, n, x::get);
        }
    }

    private static void getIsOfTheMatrixWhenReduced() {
        due.sentence("Promise 3: 'The number in row i, column j', A being reduced");
        int[][] rows = {{0, 2}, {3, 4}};
        PrimeBench x = due.reduced(5, rows, 2);
        due.matrix(x, rows);
    }

    private static void rightSideIsModuloP() {
        due.sentence("Promise 4: 'Number i of b is x modulo P'");
        PrimeBench x = due.reduced(7, new int[][] {{1}}, 1);
        int[][] pairs = {{0, 0}, {6, 6}, {7, 0}, {8, 1}, {13, 6}, {14, 0}, {MAX - 1, 0}, {MAX, 1}};
        for (int[] pair : pairs) {
            due.is("setRhs(0, " + pair[0] + ")", x.setRhs(0, pair[0]), true);
            due.is("solution(0) after " + pair[0], x.solution(0), pair[1]);
        }
        PrimeBench great = due.reduced(MAX, new int[][] {{1}}, 1);
        for (int number : new int[] {0, 1, MAX - 1, MAX}) {
            due.is("setRhs(0, " + number + ")", great.setRhs(0, number), true);
            due.is("solution(0) after " + number, great.solution(0), number == MAX ? 0 : number);
        }
    }

    private static void setRhsKeepsTheReducing() {
        due.sentence("Promise 4: '(A stays reduced, if it was): true.'");
        PrimeBench x = due.reduced(5, new int[][] {{0, 2}, {3, 1}}, 2);
        due.rightSide(x, 4, 4);
        due.is("rank()", x.rank(), 2);
        due.is("solvable()", x.solvable(), true);
        due.solution(x, 4, 2);
        due.rightSide(x, 2, 4);
        due.is("det()", x.det(), 4);
        due.solution(x, 1, 1);
        due.rref(x, new int[][] {{1, 0}, {0, 1}});
        due.is("set", x.set(0, 0, 0), true);
        due.is("reduce()", x.reduce(), 2);
        due.solution(x, 1, 1);
    }

    private static void setRhsDoesNotReduce() {
        due.sentence("Promise 4: '(A stays reduced, if it was)', and if it was not, it does not become so");
        PrimeBench x = due.bench(5, new int[][] {{0, 2}, {3, 1}});
        due.rightSide(x, 4, 4);
        due.notReduced(x);
    }

    private static void setRhsOfNoNumber() {
        due.sentence("Promise 4: 'False when there is none such'");
        PrimeBench wide = due.reduced(7, new int[][] {{1, 0, 0, 0}, {0, 1, 0, 0}}, 2);
        due.rightSide(wide, 3, 4);
        for (int i : new int[] {MIN, MIN + 1, -2, -1, 2, 3, 4, 10, 1 << 30, MAX - 1, MAX}) {
            due.is("setRhs(" + i + ", 1)", wide.setRhs(i, 1), false);
            due.is("setRhs(" + i + ", 0)", wide.setRhs(i, 0), false);
        }
        due.is("rank()", wide.rank(), 2);
        due.solution(wide, 3, 4, 0, 0);
        PrimeBench tall = due.reduced(7, new int[][] {{1}, {0}, {0}, {0}}, 1);
        due.is("setRhs(3, 1), the last one", tall.setRhs(3, 1), true);
        due.is("solvable()", tall.solvable(), false);
        due.is("setRhs(4, 0)", tall.setRhs(4, 0), false);
        due.is("solvable()", tall.solvable(), false);
    }

    private static void setRhsBelowZero() {
        due.sentence("Promise 4: 'False when .. x is below 0.'");
        PrimeBench x = due.reduced(7, new int[][] {{1, 0}, {0, 1}}, 2);
        due.rightSide(x, 3, 4);
        for (int number : new int[] {-1, -2, -6, -7, -8, -MAX, MIN}) {
            due.is("setRhs(0, " + number + ")", x.setRhs(0, number), false);
            due.is("setRhs(1, " + number + ")", x.setRhs(1, number), false);
            due.is("setRhs(2, " + number + ")", x.setRhs(2, number), false);
        }
        due.is("rank()", x.rank(), 2);
        due.solution(x, 3, 4);
        due.is("setRhs(0, 0), the smallest that is not below 0", x.setRhs(0, 0), true);
        due.solution(x, 0, 4);
    }
}
