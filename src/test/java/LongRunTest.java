/** All promises together: mixed calls on one object answer by the document up to the 512th call. */
public final class LongRunTest {
    private static final int CALLS = 512;
    private static final int RUNS = 60;
    private static final Reference BINARY = new Reference(64);
    private static final Reference TERNARY = new Reference(81);

    private static long seed;
    private static Reference reference;

    public static void main(String[] args) {
        for (int run = 1; run <= RUNS; run++) {
            seed = run;
            reference = BINARY;
            FieldTower tower = new FieldTower();
            for (int call = 0; call < CALLS; call++) {
                mixedCall(tower);
            }
        }
        Due.end();
    }

    private static void mixedCall(FieldTower tower) {
        int a = below(84) - 1;
        int b = below(84) - 1;
        boolean first = a >= 0 && a < reference.q;
        boolean both = first && b >= 0 && b < reference.q;
        switch (below(12)) {
            case 0 -> useCall(tower, 64);
            case 1 -> useCall(tower, below(3) == 0 ? b : 81);
            case 2 -> check("add", a, b, tower.add(a, b), both ? reference.sum(a, b) : -1);
            case 3 -> check("multiply", a, b, tower.multiply(a, b), both ? reference.product(a, b) : -1);
            case 4 -> check("invert", a, 0, tower.invert(a), first ? reference.inverse(a) : -1);
            case 5 -> check("power", a, b, tower.power(a, b), first && b >= 0 ? reference.power(a, b) : -1);
            case 6 -> check("order", a, 0, tower.order(a), first ? reference.order(a) : -1);
            case 7 -> check("root", a, 0, tower.root(a), first ? reference.root(a) : -1);
            case 8 -> check("roots", a, b, tower.roots(a, b), first && b >= 1 ? reference.rootCounts(b)[a] : -1);
            case 9 -> traceCall(tower, a, first);
            case 10 -> check("home", a, 0, tower.home(a), first ? reference.home(a) : -1);
            default -> check("logarithm", a, b, tower.logarithm(a, b), both ? reference.logarithm(a, b) : -1);
        }
    }

    private static void useCall(FieldTower tower, int q) {
        boolean known = q == 64 || q == 81;
        check("use", q, 0, tower.use(q), known ? 0 : -1);
        if (known) {
            reference = q == 64 ? BINARY : TERNARY;
        }
    }

    private static void traceCall(FieldTower tower, int a, boolean element) {
        int[] sizes = {2, 3, 4, 8, 9, 16, 27, 32, 64, 81};
        int s = sizes[below(sizes.length)];
        check("trace", a, s, tower.trace(a, s), element ? reference.trace(a, s) : -1);
    }

    private static void check(String name, int a, int b, int got, int want) {
        Due.due(reference.q, name + " of " + a + " and " + b, got, want);
    }

    /** A fixed row of numbers, so that every run of the test makes the same calls. */
    private static int below(int bound) {
        seed = seed * 6364136223846793005L + 1442695040888963407L;
        return (int) ((seed >>> 33) % bound);
    }
}
