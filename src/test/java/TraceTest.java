/** Promise 10: the sum a + a^s + a^(s*s) and so on for s = 2, 4, 8, 64 or 3, 9, 81; -1 for another s. */
public final class TraceTest {
    private static final int[] FAR_SIZES = {
        Integer.MIN_VALUE, -81, -64, -9, -8, -4, -3, -2, 128, 243, 256, 729, 4096, 6561, 65538, 65539, Integer.MAX_VALUE
    };

    public static void main(String[] args) {
        Due.due(64, "trace(5, 2)", Due.fresh(64).trace(5, 2), 0);
        Due.due(64, "trace(5, 8)", Due.fresh(64).trace(5, 8), 23);
        Due.due(64, "trace(5, 64)", Due.fresh(64).trace(5, 64), 5);
        Due.due(64, "trace(1, 16)", Due.fresh(64).trace(1, 16), -1);
        Due.due(64, "trace(1, 32)", Due.fresh(64).trace(1, 32), -1);
        Due.due(64, "trace(1, 81)", Due.fresh(64).trace(1, 81), -1);
        Due.due(81, "trace(3, 9)", Due.fresh(81).trace(3, 9), 51);
        Due.due(81, "trace(1, 3)", Due.fresh(81).trace(1, 3), 1);
        Due.due(81, "trace(7, 81)", Due.fresh(81).trace(7, 81), 7);
        Due.due(81, "trace(1, 27)", Due.fresh(81).trace(1, 27), -1);
        Due.due(81, "trace(1, 64)", Due.fresh(81).trace(1, 64), -1);
        for (int q : Due.SIZES) {
            Reference reference = new Reference(q);
            for (int s = -1; s <= 100; s++) {
                everyElement(reference, s);
            }
            for (int s : FAR_SIZES) {
                everyElement(reference, s);
            }
            outsidersAreRefused(q);
        }
        Due.end();
    }

    private static void everyElement(Reference reference, int s) {
        FieldTower tower = Due.fresh(reference.q);
        for (int a = 0; a < reference.q; a++) {
            Due.due(reference.q, "trace(" + a + ", " + s + ")", tower.trace(a, s), reference.trace(a, s));
        }
    }

    private static void outsidersAreRefused(int q) {
        FieldTower tower = Due.fresh(q);
        for (int outsider : Due.outsiders(q)) {
            for (int s : new int[] {-1, 0, 1, 2, 3, 4, 8, 9, 16, 64, 81}) {
                Due.due(q, "trace(" + outsider + ", " + s + ")", tower.trace(outsider, s), -1);
            }
        }
    }
}
