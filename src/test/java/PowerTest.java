/** Promise 6: a^n for n from 0 to 1000000; -1 for another n. */
public final class PowerTest {
    private static final int GREATEST = 1000000;
    private static final int STRIDE = 97;
    private static final int[] GREAT_EXPONENTS = {65535, 65536, 262143, 524287, 524288, 786431, GREATEST - 1, GREATEST};
    private static final int[] WRONG_EXPONENTS = {-1, -2, -63, Integer.MIN_VALUE, GREATEST + 1, 1 << 20, Integer.MAX_VALUE};

    public static void main(String[] args) {
        leastExponent();
        greatestExponent();
        wholeRound();
        exponentOutOfRange();
        elementOutOfRange();
        everyElement();
        wholeRange();
        Due.end();
    }

    private static void leastExponent() {
        Due.sentence("a^0 is 1; a^(n+1) is the product of a^n and a.");
        for (int q : Due.SIZES) {
            Due.first(q, "power(0, 0)", 1);
            Due.first(q, "power(1, 0)", 1);
            Due.first(q, "power(2, 0)", 1);
            Due.first(q, "power(" + (q - 1) + ", 0)", 1);
            Due.first(q, "power(0, 1)", 0);
            Due.first(q, "power(1, 1)", 1);
            Due.first(q, "power(" + (q - 1) + ", 1)", q - 1);
        }
    }

    private static void greatestExponent() {
        Due.sentence("a^n for n from 0 to 1000000");
        Due.first(64, "power(0, 1000000)", 0);
        Due.first(64, "power(1, 1000000)", 1);
        Due.first(64, "power(2, 999999)", 1);
        Due.first(64, "power(2, 1000000)", 2);
        Due.first(64, "power(63, 1000000)", 63);
        Due.first(81, "power(0, 1000000)", 0);
        Due.first(81, "power(2, 999999)", 2);
        Due.first(81, "power(2, 1000000)", 1);
        Due.first(81, "power(3, 999999)", 29);
        Due.first(81, "power(7, 999999)", 78);
        Due.first(81, "power(80, 999999)", 28);
        Due.first(81, "power(80, 1000000)", 1);
    }

    /** t^k is the first power that is reduced; after q - 1 factors the powers begin again. */
    private static void wholeRound() {
        Due.sentence("a^(n+1) is the product of a^n and a.");
        Due.first(64, "power(2, 5)", 32);
        Due.first(64, "power(2, 6)", 3);
        Due.first(64, "power(2, 62)", 33);
        Due.first(64, "power(2, 63)", 1);
        Due.first(64, "power(2, 64)", 2);
        Due.first(81, "power(3, 3)", 27);
        Due.first(81, "power(3, 4)", 4);
        Due.first(81, "power(3, 79)", 29);
        Due.first(81, "power(3, 80)", 1);
        Due.first(81, "power(3, 81)", 3);
    }

    private static void exponentOutOfRange() {
        Due.sentence("-1 also if n is out of its range.");
        for (int q : Due.SIZES) {
            for (int a = 0; a < q; a++) {
                FieldTower tower = Due.fresh(q);
                for (int n : WRONG_EXPONENTS) {
                    Due.due(q, "power(" + a + ", " + n + ")", tower.power(a, n), -1);
                }
            }
        }
    }

    private static void elementOutOfRange() {
        Due.outOfRange("power(E, 0)");
        Due.outOfRange("power(E, 1)");
        Due.outOfRange("power(E, 2)");
        Due.outOfRange("power(E, 1000000)");
        Due.outOfRange("power(E, -1)");
        Due.outOfRange("power(E, 1000001)");
    }

    private static void everyElement() {
        Due.sentence("a^n for n from 0 to 1000000");
        for (int q : Due.SIZES) {
            Reference reference = new Reference(q);
            for (int a = 0; a < q; a++) {
                rightExponents(reference, a);
            }
        }
    }

    private static void rightExponents(Reference reference, int a) {
        FieldTower tower = Due.fresh(reference.q);
        for (int n = 0; n <= 200; n++) {
            check(reference, tower, a, n);
        }
        for (int n : GREAT_EXPONENTS) {
            check(reference, tower, a, n);
        }
    }

    /** STRIDE has no factor in common with 63 or 80, so that every remainder of n comes up. */
    private static void wholeRange() {
        Due.sentence("a^n for n from 0 to 1000000 (through the whole range)");
        for (int q : Due.SIZES) {
            Reference reference = new Reference(q);
            int t = reference.p;
            int due = 1;
            for (int n = 0; n <= GREATEST; n++) {
                if (n % STRIDE == 0) {
                    Due.first(q, "power(" + t + ", " + n + ")", due);
                }
                due = reference.product(due, t);
            }
        }
    }

    private static void check(Reference reference, FieldTower tower, int a, int n) {
        Due.due(reference.q, "power(" + a + ", " + n + ")", tower.power(a, n), reference.power(a, n));
    }
}
