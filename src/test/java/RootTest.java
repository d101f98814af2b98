/** Promise 8: the least element whose square is a; -1 if there is none. */
public final class RootTest {
    public static void main(String[] args) {
        Due.due(64, "root(0)", Due.fresh(64).root(0), 0);
        Due.due(64, "root(2)", Due.fresh(64).root(2), 9);
        Due.due(81, "root(0)", Due.fresh(81).root(0), 0);
        Due.due(81, "root(1)", Due.fresh(81).root(1), 1);
        Due.due(81, "root(2)", Due.fresh(81).root(2), 51);
        Due.due(81, "root(3)", Due.fresh(81).root(3), -1);
        for (int q : Due.SIZES) {
            everyElement(q);
            outsidersAreRefused(q);
        }
        Due.end();
    }

    private static void everyElement(int q) {
        Reference reference = new Reference(q);
        FieldTower tower = Due.fresh(q);
        for (int a = 0; a < q; a++) {
            Due.due(q, "root(" + a + ")", tower.root(a), reference.root(a));
        }
    }

    private static void outsidersAreRefused(int q) {
        FieldTower tower = Due.fresh(q);
        for (int outsider : Due.outsiders(q)) {
            Due.due(q, "root(" + outsider + ")", tower.root(outsider), -1);
        }
    }
}
