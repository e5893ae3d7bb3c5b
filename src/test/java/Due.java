import java.util.function.IntBinaryOperator;

/**
 * Counts and prints the answers that are not the ones that are due. No test makes more than 512 calls
 * of one object, since the document leaves free what later ones answer: so what is here makes few.
 */
final class Due {
    private static final int MAX = Integer.MAX_VALUE;
    private static final int MIN = Integer.MIN_VALUE;

    private int wrong = 0;
    private String sentence = "";

    /** What follows is about this sentence of the document: it is printed before each wrong answer. */
    void sentence(String words) {
        sentence = words + ": ";
    }

    void is(String what, long got, long want) {
        if (got != want) {
            wrong++;
            System.out.println(sentence + what + " answered " + got + ", due is " + want);
        }
    }

    void is(String what, boolean got, boolean want) {
        is(what, got ? 1L : 0L, want ? 1L : 0L);
    }

    void end() {
        if (wrong != 0) {
            System.out.println(wrong + " answers are not as due");
            System.exit(1);
        }
    }

    /** A new object with these rows set; every set is due to be true. */
    PrimeBench bench(int p, int[][] rows) {
        PrimeBench x = new PrimeBench(p, rows.length, rows[0].length);
        for (int i = 0; i < rows.length; i++) {
            for (int j = 0; j < rows[i].length; j++) {
                is("set(" + i + ", " + j + ", " + rows[i][j] + ")", x.set(i, j, rows[i][j]), true);
            }
        }
        return x;
    }

    /** The same, reduced, with the rank that is due. */
    PrimeBench reduced(int p, int[][] rows, int rank) {
        PrimeBench x = bench(p, rows);
        is("reduce()", x.reduce(), rank);
        return x;
    }

    void rightSide(PrimeBench x, int... numbers) {
        for (int i = 0; i < numbers.length; i++) {
            is("setRhs(" + i + ", " + numbers[i] + ")", x.setRhs(i, numbers[i]), true);
        }
    }

    void matrix(PrimeBench x, int[][] want) {
        all("get", x::get, want);
    }

    void rref(PrimeBench x, int[][] want) {
        all("rrefAt", x::rrefAt, want);
    }

    void transform(PrimeBench x, int[][] want) {
        all("transformAt", x::transformAt, want);
    }

    void inverse(PrimeBench x, int[][] want) {
        all("inverseAt", x::inverseAt, want);
    }

    void kernel(PrimeBench x, int[][] want) {
        all("kernelAt", x::kernelAt, want);
    }

    void solution(PrimeBench x, int... want) {
        for (int j = 0; j < want.length; j++) {
            is("solution(" + j + ")", x.solution(j), want[j]);
        }
    }

    private void all(String name, IntBinaryOperator answer, int[][] want) {
        for (int i = 0; i < want.length; i++) {
            for (int j = 0; j < want[i].length; j++) {
                at(name, answer, i, j, want[i][j]);
            }
        }
    }

    private void at(String name, IntBinaryOperator answer, int i, int j, int want) {
        is(name + "(" + i + ", " + j + ")", answer.applyAsInt(i, j), want);
    }

    static int power(int p, int exponent) {
        int product = 1;
        for (int k = 0; k < exponent; k++) {
            product *= p;
        }
        return product;
    }

    /** Numbers that are no index of a row of this length: just beside, far off, and where a product wraps round. */
    static int[] beside(int length) {
        return new int[] {MIN, -length, -1, length, length + 1, 1 << 30, MAX};
    }

    /** The answer is -1 for every place outside these rows and columns. */
    void noneBeside(String name, int rows, int columns, IntBinaryOperator answer) {
        for (int i : beside(rows)) {
            for (int j = 0; j < columns; j++) {
                at(name, answer, i, j, -1);
            }
            for (int j : beside(columns)) {
                at(name, answer, i, j, -1);
            }
        }
        for (int i = 0; i < rows; i++) {
            for (int j : beside(columns)) {
                at(name, answer, i, j, -1);
            }
        }
    }

    /** Every answer that hangs on the reducing is -1 (false), at places that there may be and beyond. */
    void notReduced(PrimeBench x) {
        is("rank()", x.rank(), -1);
        is("det()", x.det(), -1);
        is("solvable()", x.solvable(), false);
        is("kernelDim()", x.kernelDim(), -1);
        int[] places = {MIN, -1, 0, 1, 9, 10, MAX};
        for (int i : places) {
            is("solution(" + i + ")", x.solution(i), -1);
            for (int j : places) {
                at("rrefAt", x::rrefAt, i, j, -1);
                at("transformAt", x::transformAt, i, j, -1);
                at("inverseAt", x::inverseAt, i, j, -1);
                at("kernelAt", x::kernelAt, i, j, -1);
            }
        }
    }
}
