/** Promise 4: the product of the elements, reduced by t^6 = t + 1 or t^4 = t + 1. */
public final class MultiplyTest {
    public static void main(String[] args) {
        Due.due(64, "multiply(2, 32)", Due.fresh(64).multiply(2, 32), 3);
        Due.due(64, "multiply(63, 63)", Due.fresh(64).multiply(63, 63), 42);
        Due.due(81, "multiply(3, 27)", Due.fresh(81).multiply(3, 27), 4);
        Due.due(81, "multiply(80, 80)", Due.fresh(81).multiply(80, 80), 58);
        for (int q : Due.SIZES) {
            everyPair(q);
            outsidersAreRefused(q);
        }
        Due.end();
    }

    private static void everyPair(int q) {
        Reference reference = new Reference(q);
        for (int a = 0; a < q; a++) {
            FieldTower tower = Due.fresh(q);
            for (int b = 0; b < q; b++) {
                Due.due(q, "multiply(" + a + ", " + b + ")", tower.multiply(a, b), reference.product(a, b));
            }
        }
    }

    private static void outsidersAreRefused(int q) {
        for (int outsider : Due.outsiders(q)) {
            FieldTower tower = Due.fresh(q);
            for (int a = 0; a < q; a++) {
                Due.due(q, "multiply(" + a + ", " + outsider + ")", tower.multiply(a, outsider), -1);
                Due.due(q, "multiply(" + outsider + ", " + a + ")", tower.multiply(outsider, a), -1);
            }
            Due.due(q, "multiply(" + outsider + ", " + outsider + ")", tower.multiply(outsider, outsider), -1);
        }
    }
}
