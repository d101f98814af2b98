/** Promise 5: the inverse of the element; -1 if it is 0. */
public final class InvertTest {
    public static void main(String[] args) {
        Due.due(64, "invert(0)", Due.fresh(64).invert(0), -1);
        Due.due(64, "invert(1)", Due.fresh(64).invert(1), 1);
        Due.due(64, "invert(2)", Due.fresh(64).invert(2), 33);
        Due.due(81, "invert(0)", Due.fresh(81).invert(0), -1);
        Due.due(81, "invert(2)", Due.fresh(81).invert(2), 2);
        Due.due(81, "invert(80)", Due.fresh(81).invert(80), 28);
        for (int q : Due.SIZES) {
            everyElement(q);
            outsidersAreRefused(q);
        }
        Due.end();
    }

    private static void everyElement(int q) {
        Reference reference = new Reference(q);
        FieldTower tower = Due.fresh(q);
        for (int a = 0; a < q; a++) {
            Due.due(q, "invert(" + a + ")", tower.invert(a), reference.inverse(a));
        }
    }

    private static void outsidersAreRefused(int q) {
        FieldTower tower = Due.fresh(q);
        for (int outsider : Due.outsiders(q)) {
            Due.due(q, "invert(" + outsider + ")", tower.invert(outsider), -1);
        }
    }
}
