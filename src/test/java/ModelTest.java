import java.util.Random;

/** All promises: long runs of mixed calls, each answer beside the model's; the seed is written down. */
public final class ModelTest {
    private static final int[] PRIMES = {2, 3, 5, 7, 101, 46337, 65537, 1000000007, 2147483629, Integer.MAX_VALUE};
    private static final Due due = new Due();
    private static final Random random = new Random(20261115L);

    public static void main(String[] args) {
        for (int run = 0; run < 1500; run++) {
            mixedRun(run);
        }
        due.end();
    }

    private static void mixedRun(int run) {
        int p = PRIMES[random.nextInt(PRIMES.length)];
        int m = 1 + random.nextInt(10);
        int n = random.nextInt(3) == 0 ? m : 1 + random.nextInt(10);
        PrimeBench x = new PrimeBench(p, m, n);
        Model y = new Model(p, m, n);
        String name = "run " + run + " of PrimeBench(" + p + ", " + m + ", " + n + "): ";
        int kind = random.nextInt(4);
        for (int call = 0; call < 512; call++) {
            int i = place(m);
            int j = place(n);
            if (random.nextInt(6) == 0) {
                int number = number(p, kind);
                due.is(name + "set(" + i + ", " + j + ", " + number + ")", x.set(i, j, number), y.set(i, j, number));
            } else if (random.nextInt(8) == 0) {
                int number = number(p, kind);
                due.is(name + "setRhs(" + i + ", " + number + ")", x.setRhs(i, number), y.setRhs(i, number));
            } else if (random.nextInt(4) == 0) {
                due.is(name + "reduce()", x.reduce(), y.reduce());
            } else {
                ask(name, x, y, i, j);
            }
        }
        due.is(name + "reduce()", x.reduce(), y.reduce());
        askAll(name, x, y, m, n);
    }

    /** Mostly a place that there is, now and then one just beside. */
    private static int place(int size) {
        return random.nextInt(12) == 0 ? random.nextInt(size + 4) - 2 : random.nextInt(size);
    }

    /** Few kinds of small numbers give ranks below the full one. */
    private static int number(int p, int kind) {
        if (random.nextInt(20) == 0) {
            return random.nextInt();
        }
        if (kind == 0) {
            return random.nextInt(p);
        }
        if (kind == 1) {
            return random.nextInt(2);
        }
        return random.nextInt(4) == 0 ? p - 1 - random.nextInt(2) : 0;
    }

    private static void ask(String name, PrimeBench x, Model y, int i, int j) {
        String place = "(" + i + ", " + j + ")";
        switch (random.nextInt(10)) {
            case 0 -> due.is(name + "get" + place, x.get(i, j), y.get(i, j));
            case 1 -> due.is(name + "rank()", x.rank(), y.rank());
            case 2 -> due.is(name + "rrefAt" + place, x.rrefAt(i, j), y.rrefAt(i, j));
            case 3 -> due.is(name + "transformAt" + place, x.transformAt(i, j), y.transformAt(i, j));
            case 4 -> due.is(name + "det()", x.det(), y.det());
            case 5 -> due.is(name + "inverseAt" + place, x.inverseAt(i, j), y.inverseAt(i, j));
            case 6 -> due.is(name + "solvable()", x.solvable(), y.solvable());
            case 7 -> due.is(name + "solution(" + j + ")", x.solution(j), y.solution(j));
            case 8 -> due.is(name + "kernelDim()", x.kernelDim(), y.kernelDim());
            default -> due.is(name + "kernelAt" + place, x.kernelAt(i, j), y.kernelAt(i, j));
        }
    }

    private static void askAll(String name, PrimeBench x, Model y, int m, int n) {
        due.is(name + "rank()", x.rank(), y.rank());
        due.is(name + "det()", x.det(), y.det());
        due.is(name + "solvable()", x.solvable(), y.solvable());
        due.is(name + "kernelDim()", x.kernelDim(), y.kernelDim());
        int most = Math.max(m, n);
        for (int i = -1; i <= most; i++) {
            due.is(name + "solution(" + i + ")", x.solution(i), y.solution(i));
            for (int j = -1; j <= most; j++) {
                String place = "(" + i + ", " + j + ")";
                due.is(name + "get" + place, x.get(i, j), y.get(i, j));
                due.is(name + "rrefAt" + place, x.rrefAt(i, j), y.rrefAt(i, j));
                due.is(name + "transformAt" + place, x.transformAt(i, j), y.transformAt(i, j));
                due.is(name + "inverseAt" + place, x.inverseAt(i, j), y.inverseAt(i, j));
                due.is(name + "kernelAt" + place, x.kernelAt(i, j), y.kernelAt(i, j));
            }
        }
    }
}
