/** Promise 11: the least s, as in trace, with a^s = a. */
public final class HomeTest {
    public static void main(String[] args) {
        Due.due(64, "home(0)", Due.fresh(64).home(0), 2);
        Due.due(64, "home(59)", Due.fresh(64).home(59), 4);
        Due.due(64, "home(25)", Due.fresh(64).home(25), 8);
        Due.due(64, "home(2)", Due.fresh(64).home(2), 64);
        Due.due(81, "home(2)", Due.fresh(81).home(2), 3);
        Due.due(81, "home(68)", Due.fresh(81).home(68), 9);
        Due.due(81, "home(3)", Due.fresh(81).home(3), 81);
        for (int q : Due.SIZES) {
            everyElement(q);
            outsidersAreRefused(q);
        }
        Due.end();
    }

    private static void everyElement(int q) {
        Reference reference = new Reference(q);
        FieldTower tower = Due.fresh(q);
        for (int a = 0; a < q; a++) {
            Due.due(q, "home(" + a + ")", tower.home(a), reference.home(a));
        }
    }

    private static void outsidersAreRefused(int q) {
        FieldTower tower = Due.fresh(q);
        for (int outsider : Due.outsiders(q)) {
            Due.due(q, "home(" + outsider + ")", tower.home(outsider), -1);
        }
    }
}
