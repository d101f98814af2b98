/** Promise 6: a^n for n from 0 to 1000000; -1 for another n. */
public final class PowerTest {
    private static final int GREATEST = 1000000;
    private static final int[] GREAT_EXPONENTS = {65535, 65536, 262143, 524287, 524288, 786431, GREATEST - 1, GREATEST};
    private static final int[] WRONG_EXPONENTS = {-1, -2, -63, Integer.MIN_VALUE, GREATEST + 1, 1 << 20, Integer.MAX_VALUE};

    public static void main(String[] args) {
        Due.due(64, "power(0, 0)", Due.fresh(64).power(0, 0), 1);
        Due.due(64, "power(0, 1000000)", Due.fresh(64).power(0, GREATEST), 0);
        Due.due(64, "power(2, 6)", Due.fresh(64).power(2, 6), 3);
        Due.due(81, "power(0, 0)", Due.fresh(81).power(0, 0), 1);
        Due.due(81, "power(3, 4)", Due.fresh(81).power(3, 4), 4);
        Due.due(81, "power(7, 999999)", Due.fresh(81).power(7, 999999), 78);
        for (int q : Due.SIZES) {
            Reference reference = new Reference(q);
            for (int a = 0; a < q; a++) {
                rightExponents(reference, a);
                wrongExponentsAreRefused(q, a);
            }
            outsidersAreRefused(q);
        }
        Due.end();
    }

    private static void rightExponents(Reference reference, int a) {
        FieldTower tower = Due.fresh(reference.q);
        for (int n = 0; n <= 200; n++) {
            check(reference, tower, a, n);
        }
        for (int n : GREAT_EXPONENTS) {
            check(reference, tower, a, n);
        }
    }

    private static void check(Reference reference, FieldTower tower, int a, int n) {
        Due.due(reference.q, "power(" + a + ", " + n + ")", tower.power(a, n), reference.power(a, n));
    }

    private static void wrongExponentsAreRefused(int q, int a) {
        FieldTower tower = Due.fresh(q);
        for (int n : WRONG_EXPONENTS) {
            Due.due(q, "power(" + a + ", " + n + ")", tower.power(a, n), -1);
        }
    }

    private static void outsidersAreRefused(int q) {
        FieldTower tower = Due.fresh(q);
        for (int outsider : Due.outsiders(q)) {
            for (int n : new int[] {-1, 0, 1, 2, q, GREATEST, GREATEST + 1}) {
                Due.due(q, "power(" + outsider + ", " + n + ")", tower.power(outsider, n), -1);
            }
        }
    }
}
