/** Promise 10: the sum a + a^s + a^(s*s) and so on for s = 2, 4, 8, 64 or 3, 9, 81; -1 for another s. */
public final class TraceTest {
    private static final int[] FAR_SIZES = {
        Integer.MIN_VALUE, -81, -64, -9, -8, -4, -3, -2, 128, 243, 256, 729, 4096, 6561, 65538, 65539, Integer.MAX_VALUE
    };

    public static void main(String[] args) {
        asManySummands();
        sizesOf64();
        sizesOf81();
        anotherSize();
        elementOutOfRange();
        everySize();
        Due.end();
    }

    /** From one summand, a itself, for s = q to k summands for s = p; the trace of 1 is their number modulo p. */
    private static void asManySummands() {
        Due.sentence("as many summands as s must be multiplied by itself to make q");
        Due.first(64, "trace(1, 64)", 1);
        Due.first(64, "trace(1, 8)", 0);
        Due.first(64, "trace(1, 4)", 1);
        Due.first(64, "trace(1, 2)", 0);
        Due.first(81, "trace(1, 81)", 1);
        Due.first(81, "trace(1, 9)", 2);
        Due.first(81, "trace(1, 3)", 1);
    }

    private static void sizesOf64() {
        Due.sentence("s = 2, 4, 8 or 64 if q = 64");
        Due.first(64, "trace(0, 2)", 0);
        Due.first(64, "trace(0, 64)", 0);
        Due.first(64, "trace(5, 2)", 0);
        Due.first(64, "trace(5, 8)", 23);
        Due.first(64, "trace(5, 64)", 5);
        Due.first(64, "trace(63, 2)", 1);
        Due.first(64, "trace(63, 4)", 58);
        Due.first(64, "trace(63, 8)", 22);
        Due.first(64, "trace(63, 64)", 63);
    }

    private static void sizesOf81() {
        Due.sentence("s = 3, 9 or 81 if q = 81");
        Due.first(81, "trace(0, 3)", 0);
        Due.first(81, "trace(0, 81)", 0);
        Due.first(81, "trace(3, 9)", 51);
        Due.first(81, "trace(7, 81)", 7);
        Due.first(81, "trace(80, 3)", 2);
        Due.first(81, "trace(80, 9)", 52);
        Due.first(81, "trace(80, 81)", 80);
    }

    /** The neighbours of each right s, the powers of p of which q is none, and the other field's sizes. */
    private static void anotherSize() {
        Due.sentence("-1 also for another s.");
        for (int s : new int[] {-1, 0, 1, 3, 5, 7, 9, 16, 27, 32, 63, 65, 80, 81, 82}) {
            Due.first(64, "trace(0, " + s + ")", -1);
            Due.first(64, "trace(1, " + s + ")", -1);
            Due.first(64, "trace(63, " + s + ")", -1);
        }
        for (int s : new int[] {-1, 0, 1, 2, 4, 8, 10, 26, 27, 28, 63, 64, 65, 80, 82}) {
            Due.first(81, "trace(0, " + s + ")", -1);
            Due.first(81, "trace(1, " + s + ")", -1);
            Due.first(81, "trace(80, " + s + ")", -1);
        }
    }

    private static void elementOutOfRange() {
        for (int s : new int[] {2, 4, 8, 64, 3, 9, 81, 16, 27, 1, 0, -1}) {
            Due.outOfRange("trace(E, " + s + ")");
        }
    }

    private static void everySize() {
        Due.sentence("The sum a + a^s + a^(s*s) and so on");
        for (int q : Due.SIZES) {
            Reference reference = new Reference(q);
            for (int s = -1; s <= 100; s++) {
                everyElement(reference, s);
            }
            for (int s : FAR_SIZES) {
                everyElement(reference, s);
            }
        }
    }

    private static void everyElement(Reference reference, int s) {
        FieldTower tower = Due.fresh(reference.q);
        for (int a = 0; a < reference.q; a++) {
            Due.due(reference.q, "trace(" + a + ", " + s + ")", tower.trace(a, s), reference.trace(a, s));
        }
    }
}
