/** Promise 3: the sum of the elements, coefficient by coefficient modulo p. */
public final class AddTest {
    public static void main(String[] args) {
        Due.due(64, "add(13, 27)", Due.fresh(64).add(13, 27), 22);
        Due.due(81, "add(80, 80)", Due.fresh(81).add(80, 80), 40);
        Due.due(81, "add(41, 40)", Due.fresh(81).add(41, 40), 78);
        for (int q : Due.SIZES) {
            everyPair(q);
            outsidersAreRefused(q);
        }
        Due.end();
    }

    private static void everyPair(int q) {
        Reference reference = new Reference(q);
        for (int a = 0; a < q; a++) {
            FieldTower tower = Due.fresh(q);
            for (int b = 0; b < q; b++) {
                Due.due(q, "add(" + a + ", " + b + ")", tower.add(a, b), reference.sum(a, b));
            }
        }
    }

    private static void outsidersAreRefused(int q) {
        for (int outsider : Due.outsiders(q)) {
            FieldTower tower = Due.fresh(q);
            for (int a = 0; a < q; a++) {
                Due.due(q, "add(" + a + ", " + outsider + ")", tower.add(a, outsider), -1);
                Due.due(q, "add(" + outsider + ", " + a + ")", tower.add(outsider, a), -1);
            }
            Due.due(q, "add(" + outsider + ", " + outsider + ")", tower.add(outsider, outsider), -1);
        }
    }
}
