/** Promises 11 and 12: solvable and solution. */
public final class SolutionTest {
    private static final int MAX = Integer.MAX_VALUE;
    private static final int MIN = Integer.MIN_VALUE;
    private static final Due due = new Due();

    public static void main(String[] args) {
        notReduced();
        oneSolution();
        freeColumnsAreZero();
        noSolution();
        rightSideSetAfterReducing();
        rowsThatChangedPlaces();
        largeNumbers();
        noSuchNumber();
        due.end();
    }

    private static void notReduced() {
        PrimeBench x = due.bench(7, new int[][] {{1}});
        due.is("solvable()", x.solvable(), false);
        due.is("solution(0)", x.solution(0), -1);
    }

    private static void oneSolution() {
        PrimeBench x = due.bench(7, new int[][] {{2, 1}, {1, 1}});
        due.rightSide(x, 5, 3);
        x.reduce();
        due.is("solvable()", x.solvable(), true);
        due.solution(x, 2, 1);
    }

    private static void freeColumnsAreZero() {
        PrimeBench x = due.bench(5, new int[][] {{0, 1, 2, 0, 3}, {0, 0, 0, 2, 4}});
        due.rightSide(x, 4, 3);
        x.reduce();
        due.is("solvable()", x.solvable(), true);
        due.solution(x, 0, 4, 0, 4, 0);
    }

    private static void noSolution() {
        PrimeBench zero = new PrimeBench(7, 2, 2);
        due.rightSide(zero, 0, 1);
        zero.reduce();
        due.is("solvable()", zero.solvable(), false);
        due.solution(zero, -1, -1);
        PrimeBench x = due.bench(7, new int[][] {{1, 3}, {2, 6}, {3, 2}});
        due.rightSide(x, 1, 2, 4);
        x.reduce();
        due.is("solvable() with the last row at fault", x.solvable(), false);
        due.solution(x, -1, -1);
        due.rightSide(x, 1, 3, 3);
        due.is("solvable() with the middle row at fault", x.solvable(), false);
        due.solution(x, -1, -1);
        due.rightSide(x, 1, 2, 3);
        due.is("solvable()", x.solvable(), true);
        due.solution(x, 1, 0);
    }

    private static void rightSideSetAfterReducing() {
        PrimeBench x = due.bench(7, new int[][] {{1, 2}, {2, 4}});
        x.reduce();
        due.is("solvable()", x.solvable(), true);
        due.is("setRhs", x.setRhs(0, 3), true);
        due.is("solvable()", x.solvable(), false);
        due.is("solution(0)", x.solution(0), -1);
        due.is("setRhs", x.setRhs(1, 6), true);
        due.is("solvable()", x.solvable(), true);
        due.solution(x, 3, 0);
    }

    private static void rowsThatChangedPlaces() {
        PrimeBench x = due.bench(7, new int[][] {{0, 0}, {0, 3}, {2, 0}});
        due.rightSide(x, 0, 5, 6);
        x.reduce();
        due.is("solvable()", x.solvable(), true);
        due.solution(x, 3, 4);
        due.rightSide(x, 1, 5, 6);
        due.is("solvable()", x.solvable(), false);
    }

    private static void largeNumbers() {
        PrimeBench x = due.bench(MAX, new int[][] {{MAX - 1, 0}, {MAX - 1, MAX - 1}});
        due.rightSide(x, MAX - 1, MAX - 3);
        x.reduce();
        due.is("solvable()", x.solvable(), true);
        due.solution(x, 1, 2);
    }

    private static void noSuchNumber() {
        PrimeBench x = due.bench(7, new int[][] {{1, 2}, {0, 3}, {0, 0}});
        x.reduce();
        due.solution(x, 0, 0);
        for (int j : new int[] {-1, 2, 3, 10, MIN, MAX}) {
            due.is("solution(" + j + ")", x.solution(j), -1);
        }
    }
}
