/** Terms, SOLVABLE and SOLUTION, and promises 11 and 12: solvable and solution. */
public final class SolutionTest {
    private static final int MAX = Integer.MAX_VALUE;
    private static final int MIN = Integer.MIN_VALUE;
    private static final Due due = new Due();

    public static void main(String[] args) {
        zeroInRowsWithoutAPivot();
        changedAsTheRowsWere();
        everyRowHasAPivot();
        noRowHasAPivot();
        zeroForFreeColumns();
        oneSolution();
        solvableWhenNotReduced();
        solvableWhenReduced();
        solutionWhenNotReduced();
        noSolution();
        solutionOfNoNumber();
        due.end();
    }

    private static void zeroInRowsWithoutAPivot() {
        due.sentence("Terms: 'SOLVABLE, if b, changed as the rows were, is 0 in rows without a pivot'");
        PrimeBench x = due.reduced(7, new int[][] {{1, 3}, {2, 6}, {3, 2}}, 1);
        due.rightSide(x, 1, 2, 3);
        due.is("solvable()", x.solvable(), true);
        due.rightSide(x, 1, 2, 4);
        due.is("solvable() with the last row at fault", x.solvable(), false);
        due.rightSide(x, 1, 3, 3);
        due.is("solvable() with the first row without a pivot at fault", x.solvable(), false);
        due.rightSide(x, 2, 2, 3);
        due.is("solvable() with all but the row of the pivot at fault", x.solvable(), false);
        due.rightSide(x, 0, 0, 0);
        due.is("solvable() with b of zeros", x.solvable(), true);
        due.rightSide(x, 0, 7, 14);
        due.is("solvable() with b of zeros modulo P", x.solvable(), true);
    }

    private static void changedAsTheRowsWere() {
        due.sentence("Terms: 'b, changed as the rows were'");
        PrimeBench x = due.reduced(7, new int[][] {{0, 0}, {0, 3}, {2, 0}}, 2);
        due.rightSide(x, 0, 5, 6);
        due.is("solvable()", x.solvable(), true);
        due.solution(x, 3, 4);
        due.rightSide(x, 1, 5, 6);
        due.is("solvable(), row 0 being the one without a pivot", x.solvable(), false);
        // What is set before the reducing counts like what is set behind it.
        PrimeBench before = due.bench(7, new int[][] {{0, 0}, {0, 3}, {2, 0}});
        due.rightSide(before, 0, 5, 6);
        due.is("reduce()", before.reduce(), 2);
        due.is("solvable()", before.solvable(), true);
        due.solution(before, 3, 4);
        due.is("reduce() once more", before.reduce(), 2);
        due.solution(before, 3, 4);
    }

    private static void everyRowHasAPivot() {
        due.sentence("Terms: 'is 0 in rows without a pivot', there being none such");
        PrimeBench x = due.reduced(3, new int[][] {{1, 2, 0}, {0, 0, 2}}, 2);
        for (int code = 0; code < 9; code++) {
            due.rightSide(x, code / 3, code % 3);
            due.is("solvable()", x.solvable(), true);
            due.solution(x, code / 3, 0, code % 3 * 2 % 3);
        }
    }

    private static void noRowHasAPivot() {
        due.sentence("Terms: 'is 0 in rows without a pivot', all being such");
        PrimeBench x = new PrimeBench(7, 10, 10);
        due.is("reduce()", x.reduce(), 0);
        due.is("solvable()", x.solvable(), true);
        due.solution(x, 0, 0, 0, 0, 0, 0, 0, 0, 0, 0);
        for (int i = 0; i < 10; i++) {
            due.is("setRhs", x.setRhs(i, 1), true);
            due.is("solvable() with number " + i + " of b at fault", x.solvable(), false);
            due.is("setRhs", x.setRhs(i, 0), true);
            due.is("solvable()", x.solvable(), true);
        }
    }

    private static void zeroForFreeColumns() {
        due.sentence("Terms: 'the SOLUTION is that x which is 0 for free columns'");
        PrimeBench x = due.reduced(5, new int[][] {{0, 1, 2, 0, 3}, {0, 0, 0, 2, 4}}, 2);
        due.rightSide(x, 4, 3);
        due.is("solvable()", x.solvable(), true);
        due.solution(x, 0, 4, 0, 4, 0);
        PrimeBench one = due.reduced(5, new int[][] {{0, 2, 1}}, 1);
        due.rightSide(one, 1);
        due.solution(one, 0, 3, 0);
    }

    private static void oneSolution() {
        due.sentence("Terms: 'the SOLUTION is that x', no column being free");
        PrimeBench x = due.reduced(7, new int[][] {{2, 1}, {1, 1}}, 2);
        due.rightSide(x, 5, 3);
        due.solution(x, 2, 1);
        PrimeBench tall = due.reduced(7, new int[][] {{1, 0}, {0, 1}, {1, 1}}, 2);
        due.rightSide(tall, 5, 6, 4);
        due.solution(tall, 5, 6);
    }

    private static void solvableWhenNotReduced() {
        due.sentence("Promise 11: 'Whether it is reduced, and A x = b is solvable.', not reduced");
        PrimeBench x = new PrimeBench(7, 1, 1);
        due.is("solvable() of a new object", x.solvable(), false);
        due.is("set", x.set(0, 0, 1), true);
        due.is("solvable() before reduce()", x.solvable(), false);
        due.is("reduce()", x.reduce(), 1);
        due.is("solvable()", x.solvable(), true);
        due.is("set to the same number", x.set(0, 0, 1), true);
        due.is("solvable() after set", x.solvable(), false);
    }

    private static void solvableWhenReduced() {
        due.sentence("Promise 11: 'Whether it is reduced, and A x = b is solvable.', reduced, b set behind that");
        PrimeBench x = due.reduced(7, new int[][] {{1, 2}, {2, 4}}, 1);
        due.is("solvable()", x.solvable(), true);
        due.is("setRhs", x.setRhs(0, 3), true);
        due.is("solvable()", x.solvable(), false);
        due.is("setRhs", x.setRhs(1, 6), true);
        due.is("solvable()", x.solvable(), true);
        due.is("setRhs below 0", x.setRhs(1, -1), false);
        due.is("solvable()", x.solvable(), true);
        due.is("set(1, 1, 5)", x.set(1, 1, 5), true);
        due.is("reduce()", x.reduce(), 2);
        due.is("solvable()", x.solvable(), true);
        due.solution(x, 3, 0);
    }

    private static void solutionWhenNotReduced() {
        due.sentence("Promise 12: 'Number j of the solution; -1 when it is not reduced'");
        PrimeBench x = due.bench(7, new int[][] {{1, 0}, {0, 1}});
        due.rightSide(x, 3, 4);
        due.solution(x, -1, -1);
        due.is("reduce()", x.reduce(), 2);
        due.solution(x, 3, 4);
        due.is("set", x.set(1, 1, 1), true);
        due.solution(x, -1, -1);
    }

    private static void noSolution() {
        due.sentence("Promise 12: '-1 when .. there is no solution'");
        PrimeBench zero = new PrimeBench(7, 2, 2);
        due.rightSide(zero, 0, 1);
        due.is("reduce()", zero.reduce(), 0);
        due.solution(zero, -1, -1);
        PrimeBench x = due.reduced(7, new int[][] {{1, 3, 0}, {2, 6, 0}}, 1);
        due.rightSide(x, 1, 3);
        due.solution(x, -1, -1, -1);
        due.rightSide(x, 1, 2);
        due.solution(x, 1, 0, 0);
    }

    private static void solutionOfNoNumber() {
        due.sentence("Promise 12: '-1 when .. no such number.'");
        PrimeBench tall = due.reduced(7, new int[][] {{1, 2}, {0, 3}, {0, 0}}, 2);
        due.rightSide(tall, 3, 3, 0);
        due.solution(tall, 1, 1);
        for (int j : new int[] {MIN, MIN + 1, -2, -1, 2, 3, 4, 10, 1 << 30, MAX - 1, MAX}) {
            due.is("solution(" + j + ")", tall.solution(j), -1);
        }
        PrimeBench wide = due.reduced(7, new int[][] {{0, 0, 2}}, 1);
        due.rightSide(wide, 6);
        due.solution(wide, 0, 0, 3, -1, -1);
        for (int n = 1; n <= 10; n++) {
            PrimeBench x = new PrimeBench(7, 1, n);
            due.is("reduce()", x.reduce(), 0);
            due.is("solution of the last number", x.solution(n - 1), 0);
            due.is("solution behind the last number", x.solution(n), -1);
            due.is("solution before the first number", x.solution(-1), -1);
        }
    }
}
