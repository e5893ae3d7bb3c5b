/** Counts and prints the answers that are not the ones that are due. */
final class Due {
    private int wrong = 0;

    void is(String what, long got, long want) {
        if (got != want) {
            wrong++;
            System.out.println(what + " answered " + got + ", due is " + want);
        }
    }

    void is(String what, boolean got, boolean want) {
        is(what, got ? 1L : 0L, want ? 1L : 0L);
    }

    void end() {
        if (wrong != 0) {
            System.out.println(wrong + " answers are not as due");
            System.exit(1);
        }
    }

    /** A new object with these rows set; every set is due to be true. */
    PrimeBench bench(int p, int[][] rows) {
        PrimeBench x = new PrimeBench(p, rows.length, rows[0].length);
        for (int i = 0; i < rows.length; i++) {
            for (int j = 0; j < rows[i].length; j++) {
                is("set(" + i + ", " + j + ", " + rows[i][j] + ")", x.set(i, j, rows[i][j]), true);
            }
        }
        return x;
    }

    void rightSide(PrimeBench x, int... numbers) {
        for (int i = 0; i < numbers.length; i++) {
            is("setRhs(" + i + ", " + numbers[i] + ")", x.setRhs(i, numbers[i]), true);
        }
    }

    void matrix(PrimeBench x, int[][] want) {
        for (int i = 0; i < want.length; i++) {
            for (int j = 0; j < want[i].length; j++) {
                is("get(" + i + ", " + j + ")", x.get(i, j), want[i][j]);
            }
        }
    }

    void rref(PrimeBench x, int[][] want) {
        for (int i = 0; i < want.length; i++) {
            for (int j = 0; j < want[i].length; j++) {
                is("rrefAt(" + i + ", " + j + ")", x.rrefAt(i, j), want[i][j]);
            }
        }
    }

    void transform(PrimeBench x, int[][] want) {
        for (int i = 0; i < want.length; i++) {
            for (int j = 0; j < want[i].length; j++) {
                is("transformAt(" + i + ", " + j + ")", x.transformAt(i, j), want[i][j]);
            }
        }
    }

    void inverse(PrimeBench x, int[][] want) {
        for (int i = 0; i < want.length; i++) {
            for (int j = 0; j < want[i].length; j++) {
                is("inverseAt(" + i + ", " + j + ")", x.inverseAt(i, j), want[i][j]);
            }
        }
    }

    void solution(PrimeBench x, int... want) {
        for (int j = 0; j < want.length; j++) {
            is("solution(" + j + ")", x.solution(j), want[j]);
        }
    }

    void kernel(PrimeBench x, int[][] want) {
        for (int k = 0; k < want.length; k++) {
            for (int j = 0; j < want[k].length; j++) {
                is("kernelAt(" + k + ", " + j + ")", x.kernelAt(k, j), want[k][j]);
            }
        }
    }

    /** Every answer that hangs on the reducing is -1 (false), at each place and beyond. */
    void notReduced(PrimeBench x) {
        is("rank()", x.rank(), -1);
        is("det()", x.det(), -1);
        is("solvable()", x.solvable(), false);
        is("kernelDim()", x.kernelDim(), -1);
        for (int i = -1; i <= 11; i++) {
            is("solution(" + i + ")", x.solution(i), -1);
            for (int j = -1; j <= 11; j++) {
                String place = "(" + i + ", " + j + ")";
                is("rrefAt" + place, x.rrefAt(i, j), -1);
                is("transformAt" + place, x.transformAt(i, j), -1);
                is("inverseAt" + place, x.inverseAt(i, j), -1);
                is("kernelAt" + place, x.kernelAt(i, j), -1);
            }
        }
    }
}
