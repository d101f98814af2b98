/** Promise 12: the least n with g^n = a; -1 if there is none, or g or a is 0. */
public final class LogarithmTest {
    public static void main(String[] args) {
        Due.due(64, "logarithm(2, 3)", Due.fresh(64).logarithm(2, 3), 6);
        Due.due(64, "logarithm(3, 2)", Due.fresh(64).logarithm(3, 2), -1);
        Due.due(64, "logarithm(1, 1)", Due.fresh(64).logarithm(1, 1), 0);
        Due.due(64, "logarithm(2, 33)", Due.fresh(64).logarithm(2, 33), 62);
        Due.due(64, "logarithm(0, 0)", Due.fresh(64).logarithm(0, 0), -1);
        Due.due(64, "logarithm(0, 1)", Due.fresh(64).logarithm(0, 1), -1);
        Due.due(64, "logarithm(1, 0)", Due.fresh(64).logarithm(1, 0), -1);
        Due.due(81, "logarithm(3, 80)", Due.fresh(81).logarithm(3, 80), 68);
        Due.due(81, "logarithm(3, 29)", Due.fresh(81).logarithm(3, 29), 79);
        for (int q : Due.SIZES) {
            everyPair(q);
            outsidersAreRefused(q);
        }
        Due.end();
    }

    private static void everyPair(int q) {
        Reference reference = new Reference(q);
        for (int a = 0; a < q; a++) {
            FieldTower tower = Due.fresh(q);
            for (int b = 0; b < q; b++) {
                Due.due(q, "logarithm(" + a + ", " + b + ")", tower.logarithm(a, b), reference.logarithm(a, b));
            }
        }
    }

    private static void outsidersAreRefused(int q) {
        for (int outsider : Due.outsiders(q)) {
            FieldTower tower = Due.fresh(q);
            for (int a = 0; a < q; a++) {
                Due.due(q, "logarithm(" + a + ", " + outsider + ")", tower.logarithm(a, outsider), -1);
                Due.due(q, "logarithm(" + outsider + ", " + a + ")", tower.logarithm(outsider, a), -1);
            }
            Due.due(q, "logarithm(" + outsider + ", " + outsider + ")", tower.logarithm(outsider, outsider), -1);
        }
    }
}
