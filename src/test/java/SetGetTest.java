/** Promises 2, 3 and 4: set, get and setRhs. */
public final class SetGetTest {
    private static final int MAX = Integer.MAX_VALUE;
    private static final int MIN = Integer.MIN_VALUE;
    private static final Due due = new Due();

    public static void main(String[] args) {
        numbersAreModuloP();
        everyPlaceIsItsOwn();
        noSuchPlace();
        setEndsTheReducing();
        aFalseSetDoesNothing();
        getIsOfTheMatrixWhenReduced();
        rightSideIsModuloP();
        noSuchNumberOfTheRightSide();
        setRhsKeepsTheReducing();
        due.end();
    }

    private static void numbersAreModuloP() {
        PrimeBench x = new PrimeBench(7, 1, 1);
        int[][] pairs = {{0, 0}, {6, 6}, {7, 0}, {8, 1}, {14, 0}, {100, 2}, {MAX, 1}};
        for (int[] pair : pairs) {
            due.is("set(0, 0, " + pair[0] + ")", x.set(0, 0, pair[0]), true);
            due.is("get(0, 0) after " + pair[0], x.get(0, 0), pair[1]);
        }
        PrimeBench large = new PrimeBench(MAX, 1, 1);
        due.is("set(0, 0, P - 1)", large.set(0, 0, MAX - 1), true);
        due.is("get(0, 0)", large.get(0, 0), MAX - 1);
        due.is("set(0, 0, P)", large.set(0, 0, MAX), true);
        due.is("get(0, 0)", large.get(0, 0), 0);
    }

    private static void everyPlaceIsItsOwn() {
        PrimeBench x = new PrimeBench(101, 3, 10);
        for (int i = 0; i < 3; i++) {
            for (int j = 0; j < 10; j++) {
                due.is("set", x.set(i, j, 10 * i + j + 1), true);
            }
        }
        for (int i = 0; i < 3; i++) {
            for (int j = 0; j < 10; j++) {
                due.is("get(" + i + ", " + j + ")", x.get(i, j), 10 * i + j + 1);
            }
        }
    }

    private static void noSuchPlace() {
        int[][] rows = {{1, 2, 3}, {4, 5, 6}};
        PrimeBench x = due.bench(11, rows);
        int[][] places = {{-1, 0}, {0, -1}, {2, 0}, {0, 3}, {1, 3}, {2, 2}, {-1, 3}, {MIN, 0}, {0, MIN},
            {MAX, 0}, {0, MAX}, {MAX, MAX}, {MIN, MIN}};
        for (int[] place : places) {
            String name = "(" + place[0] + ", " + place[1] + ")";
            due.is("set" + name, x.set(place[0], place[1], 9), false);
            due.is("get" + name, x.get(place[0], place[1]), -1);
        }
        due.matrix(x, rows);
    }

    private static void setEndsTheReducing() {
        PrimeBench x = due.bench(5, new int[][] {{1, 2}, {3, 4}});
        due.is("reduce()", x.reduce(), 2);
        due.is("set to another number", x.set(1, 0, 2), true);
        due.notReduced(x);
        due.is("reduce()", x.reduce(), 1);
        due.is("set to the same number", x.set(1, 0, 2), true);
        due.notReduced(x);
    }

    private static void aFalseSetDoesNothing() {
        int[][] rows = {{1, 2}, {3, 4}};
        PrimeBench x = due.bench(5, rows);
        due.is("reduce()", x.reduce(), 2);
        due.is("set below 0", x.set(0, 0, -1), false);
        due.is("set below 0", x.set(1, 1, MIN), false);
        due.is("set of no place", x.set(2, 0, 1), false);
        due.is("set of no place", x.set(0, 2, 1), false);
        due.is("set of no place", x.set(-1, 0, 1), false);
        due.matrix(x, rows);
        due.is("rank()", x.rank(), 2);
        due.is("det()", x.det(), 3);
    }

    private static void getIsOfTheMatrixWhenReduced() {
        int[][] rows = {{0, 2}, {3, 4}};
        PrimeBench x = due.bench(5, rows);
        due.is("reduce()", x.reduce(), 2);
        due.matrix(x, rows);
        due.is("get of no place", x.get(2, 0), -1);
        due.is("get of no place", x.get(0, 2), -1);
    }

    private static void rightSideIsModuloP() {
        PrimeBench x = due.bench(7, new int[][] {{1}});
        due.is("reduce()", x.reduce(), 1);
        int[][] pairs = {{0, 0}, {6, 6}, {7, 0}, {8, 1}, {MAX, 1}};
        for (int[] pair : pairs) {
            due.is("setRhs(0, " + pair[0] + ")", x.setRhs(0, pair[0]), true);
            due.is("solution(0) after " + pair[0], x.solution(0), pair[1]);
        }
    }

    private static void noSuchNumberOfTheRightSide() {
        PrimeBench x = due.bench(7, new int[][] {{1, 0, 0}, {0, 1, 0}});
        due.rightSide(x, 3, 4);
        due.is("reduce()", x.reduce(), 2);
        int[][] calls = {{-1, 1}, {2, 1}, {3, 1}, {MIN, 1}, {MAX, 1}, {0, -1}, {1, MIN}, {2, -1}};
        for (int[] call : calls) {
            due.is("setRhs(" + call[0] + ", " + call[1] + ")", x.setRhs(call[0], call[1]), false);
        }
        due.is("rank()", x.rank(), 2);
        due.solution(x, 3, 4, 0);
    }

    private static void setRhsKeepsTheReducing() {
        PrimeBench x = due.bench(5, new int[][] {{0, 2}, {3, 1}});
        due.is("setRhs does not reduce", x.setRhs(0, 1), true);
        due.notReduced(x);
        due.is("reduce()", x.reduce(), 2);
        due.rightSide(x, 4, 4);
        due.is("rank()", x.rank(), 2);
        due.solution(x, 4, 2);
        due.rightSide(x, 2, 4);
        due.solution(x, 1, 1);
        due.is("set", x.set(0, 0, 0), true);
        due.is("reduce()", x.reduce(), 2);
        due.solution(x, 1, 1);
    }
}
