import java.util.Arrays;

/** Promise 9: the number of elements x with x^n = a for n from 1 to 1000000; -1 for another n. */
public final class RootsTest {
    private static final int GREATEST = 1000000;
    private static final int STRIDE = 997;
    private static final int[] GREAT_EXPONENTS = {65536, 524287, 524288, 999936, 999999, GREATEST};
    private static final int[] WRONG_EXPONENTS = {0, -1, -3, Integer.MIN_VALUE, GREATEST + 1, 1 << 20, Integer.MAX_VALUE};

    public static void main(String[] args) {
        noneAndAll();
        leastExponent();
        greatestExponent();
        exponentOutOfRange();
        elementOutOfRange();
        everyElement();
        wholeRange();
        Due.end();
    }

    /** A number of roots goes from 0 to q - 1: never q, since 0 alone has the power 0. */
    private static void noneAndAll() {
        Due.sentence("The number of elements x with x^n = a");
        Due.first(64, "roots(2, 3)", 0);
        Due.first(64, "roots(0, 5)", 1);
        Due.first(64, "roots(0, 63)", 1);
        Due.first(64, "roots(1, 9)", 9);
        Due.first(64, "roots(1, 62)", 1);
        Due.first(64, "roots(1, 63)", 63);
        Due.first(64, "roots(1, 64)", 1);
        Due.first(64, "roots(63, 63)", 0);
        Due.first(81, "roots(3, 2)", 0);
        Due.first(81, "roots(0, 80)", 1);
        Due.first(81, "roots(2, 4)", 4);
        Due.first(81, "roots(1, 79)", 1);
        Due.first(81, "roots(1, 80)", 80);
        Due.first(81, "roots(1, 81)", 1);
        Due.first(81, "roots(80, 80)", 0);
    }

    private static void leastExponent() {
        Due.sentence("for n from 1");
        for (int q : Due.SIZES) {
            Due.first(q, "roots(0, 1)", 1);
            Due.first(q, "roots(1, 1)", 1);
            Due.first(q, "roots(" + (q - 1) + ", 1)", 1);
            Due.first(q, "roots(0, 0)", -1);
            Due.first(q, "roots(1, 0)", -1);
            Due.first(q, "roots(" + (q - 1) + ", 0)", -1);
        }
    }

    private static void greatestExponent() {
        Due.sentence("to 1000000");
        Due.first(64, "roots(0, 1000000)", 1);
        Due.first(64, "roots(1, 999999)", 63);
        Due.first(64, "roots(1, 1000000)", 1);
        Due.first(64, "roots(63, 1000000)", 1);
        Due.first(64, "roots(63, 1000001)", -1);
        Due.first(81, "roots(0, 1000000)", 1);
        Due.first(81, "roots(1, 999999)", 1);
        Due.first(81, "roots(1, 1000000)", 80);
        Due.first(81, "roots(80, 1000000)", 0);
        Due.first(81, "roots(80, 1000001)", -1);
    }

    private static void exponentOutOfRange() {
        Due.sentence("-1 also if n is out of its range.");
        for (int q : Due.SIZES) {
            for (int n : WRONG_EXPONENTS) {
                FieldTower tower = Due.fresh(q);
                for (int a = 0; a < q; a++) {
                    Due.due(q, "roots(" + a + ", " + n + ")", tower.roots(a, n), -1);
                }
            }
        }
    }

    private static void elementOutOfRange() {
        Due.outOfRange("roots(E, 1)");
        Due.outOfRange("roots(E, 2)");
        Due.outOfRange("roots(E, 1000000)");
        Due.outOfRange("roots(E, 0)");
        Due.outOfRange("roots(E, 1000001)");
    }

    private static void everyElement() {
        Due.sentence("The number of elements x with x^n = a, for n from 1 to 1000000");
        for (int q : Due.SIZES) {
            Reference reference = new Reference(q);
            for (int n = 1; n <= 170; n++) {
                oneExponent(reference, n);
            }
            for (int n : GREAT_EXPONENTS) {
                oneExponent(reference, n);
            }
        }
    }

    /** STRIDE has no factor in common with 63 or 80, so that every remainder of n comes up. */
    private static void wholeRange() {
        Due.sentence("The number of elements x with x^n = a, for n from 1 to 1000000 (through the whole range)");
        for (int q : Due.SIZES) {
            Reference reference = new Reference(q);
            int[] powers = new int[q];
            Arrays.fill(powers, 1);
            for (int n = 1; n <= GREATEST; n++) {
                for (int x = 0; x < q; x++) {
                    powers[x] = reference.product(powers[x], x);
                }
                if (n % STRIDE == 0) {
                    timesAmong(powers, powers[n % q], n);
                    timesAmong(powers, q / 3, n);
                }
            }
        }
    }

    /** The powers are those of every x, so a's roots are as many as its places among them. */
    private static void timesAmong(int[] powers, int a, int n) {
        int due = 0;
        for (int power : powers) {
            due += power == a ? 1 : 0;
        }
        Due.first(powers.length, "roots(" + a + ", " + n + ")", due);
    }

    private static void oneExponent(Reference reference, int n) {
        FieldTower tower = Due.fresh(reference.q);
        int[] counts = reference.rootCounts(n);
        for (int a = 0; a < reference.q; a++) {
            Due.due(reference.q, "roots(" + a + ", " + n + ")", tower.roots(a, n), counts[a]);
        }
    }
}
