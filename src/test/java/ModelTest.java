import java.util.Random;

/**
 * All promises: each answer beside the model's, in long runs of mixed calls whose seed is written down,
 * and for every matrix of some small sizes.
 */
public final class ModelTest {
    private static final int[] PRIMES = {2, 3, 5, 7, 101, 46337, 65537, 1000000007, 2147483629, Integer.MAX_VALUE};
    private static final Due due = new Due();
    private static final Random random = new Random(20261115L);

    public static void main(String[] args) {
        for (int run = 0; run < 2500; run++) {
            mixedRun(run);
        }
        for (int m = 1; m <= 3; m++) {
            for (int n = 1; n <= 3; n++) {
                everyMatrix(2, m, n);
            }
        }
        everyMatrix(3, 1, 4);
        everyMatrix(3, 2, 2);
        everyMatrix(3, 2, 3);
        everyMatrix(3, 3, 2);
        everyMatrix(5, 2, 2);
        due.end();
    }

    /** Each matrix of this size, with each right side set behind the reducing. */
    private static void everyMatrix(int p, int m, int n) {
        int matrices = Due.power(p, m * n);
        for (int code = 0; code < matrices; code++) {
            PrimeBench x = new PrimeBench(p, m, n);
            Model y = new Model(p, m, n);
            due.sentence("matrix " + code + " of PrimeBench(" + p + ", " + m + ", " + n + ")");
            for (int place = 0; place < m * n; place++) {
                int number = code / Due.power(p, place) % p;
                due.is("set", x.set(place / n, place % n, number), y.set(place / n, place % n, number));
            }
            due.is("reduce()", x.reduce(), y.reduce());
            askAll(x, y, m, n, 1);
            askAll(x, y, m, n, 3);
            everyRightSide(x, y, p, m, n);
        }
    }

    private static void everyRightSide(PrimeBench x, Model y, int p, int m, int n) {
        for (int code = 0; code < Due.power(p, m); code++) {
            for (int i = 0; i < m; i++) {
                int number = code / Due.power(p, i) % p;
                due.is("setRhs(" + i + ", " + number + ")", x.setRhs(i, number), y.setRhs(i, number));
            }
            due.is("solvable()", x.solvable(), y.solvable());
            for (int j = 0; j < n; j++) {
                due.is("solution(" + j + ")", x.solution(j), y.solution(j));
            }
        }
    }

    /** All 512 calls mixed, or 200 of them and then every place of two of the answers. */
    private static void mixedRun(int run) {
        int p = PRIMES[random.nextInt(PRIMES.length)];
        int m = 1 + random.nextInt(10);
        int n = random.nextInt(3) == 0 ? m : 1 + random.nextInt(10);
        PrimeBench x = new PrimeBench(p, m, n);
        Model y = new Model(p, m, n);
        due.sentence("run " + run + " of PrimeBench(" + p + ", " + m + ", " + n + ")");
        int kind = random.nextInt(4);
        if (run % 5 == 0) {
            mixedCalls(x, y, p, m, n, kind, 512);
            return;
        }
        mixedCalls(x, y, p, m, n, kind, 200);
        due.is("reduce()", x.reduce(), y.reduce());
        askAll(x, y, m, n, run % 5);
    }

    private static void mixedCalls(PrimeBench x, Model y, int p, int m, int n, int kind, int calls) {
        for (int call = 0; call < calls; call++) {
            int i = place(m);
            int j = place(n);
            if (random.nextInt(6) == 0) {
                int number = number(p, kind);
                due.is("set(" + i + ", " + j + ", " + number + ")", x.set(i, j, number), y.set(i, j, number));
            } else if (random.nextInt(8) == 0) {
                int number = number(p, kind);
                due.is("setRhs(" + i + ", " + number + ")", x.setRhs(i, number), y.setRhs(i, number));
            } else if (random.nextInt(4) == 0) {
                due.is("reduce()", x.reduce(), y.reduce());
            } else {
                ask(x, y, i, j);
            }
        }
    }

    /** Mostly a place that there is, now and then one just beside. */
    private static int place(int size) {
        return random.nextInt(12) == 0 ? random.nextInt(size + 4) - 2 : random.nextInt(size);
    }

    /** Few kinds of small numbers give ranks below the full one. */
    private static int number(int p, int kind) {
        if (random.nextInt(20) == 0) {
            return random.nextInt();
        }
        if (kind == 0) {
            return random.nextInt(p);
        }
        if (kind == 1) {
            return random.nextInt(2);
        }
        return random.nextInt(4) == 0 ? p - 1 - random.nextInt(2) : 0;
    }

    private static void ask(PrimeBench x, Model y, int i, int j) {
        switch (random.nextInt(10)) {
            case 0 -> due.is("rank()", x.rank(), y.rank());
            case 1 -> due.is("det()", x.det(), y.det());
            case 2 -> due.is("solvable()", x.solvable(), y.solvable());
            case 3 -> due.is("solution(" + j + ")", x.solution(j), y.solution(j));
            case 4 -> due.is("kernelDim()", x.kernelDim(), y.kernelDim());
            default -> askPlace(x, y, i, j, random.nextInt(5));
        }
    }

    private static void askPlace(PrimeBench x, Model y, int i, int j, int kind) {
        String place = "(" + i + ", " + j + ")";
        switch (kind) {
            case 0 -> due.is("get" + place, x.get(i, j), y.get(i, j));
            case 1 -> due.is("rrefAt" + place, x.rrefAt(i, j), y.rrefAt(i, j));
            case 2 -> due.is("transformAt" + place, x.transformAt(i, j), y.transformAt(i, j));
            case 3 -> due.is("inverseAt" + place, x.inverseAt(i, j), y.inverseAt(i, j));
            default -> due.is("kernelAt" + place, x.kernelAt(i, j), y.kernelAt(i, j));
        }
    }

    private static void askAll(PrimeBench x, Model y, int m, int n, int kind) {
        due.is("rank()", x.rank(), y.rank());
        due.is("det()", x.det(), y.det());
        due.is("solvable()", x.solvable(), y.solvable());
        due.is("kernelDim()", x.kernelDim(), y.kernelDim());
        int most = Math.max(m, n);
        for (int i = -1; i <= most; i++) {
            due.is("solution(" + i + ")", x.solution(i), y.solution(i));
            for (int j = -1; j <= most; j++) {
                askPlace(x, y, i, j, kind - 1);
                askPlace(x, y, i, j, kind);
            }
        }
    }
}
