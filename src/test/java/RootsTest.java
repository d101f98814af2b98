/** Promise 9: the number of elements x with x^n = a for n from 1 to 1000000; -1 for another n. */
public final class RootsTest {
    private static final int GREATEST = 1000000;
    private static final int[] GREAT_EXPONENTS = {65536, 524287, 524288, 999936, 999999, GREATEST};
    private static final int[] WRONG_EXPONENTS = {0, -1, -3, Integer.MIN_VALUE, GREATEST + 1, 1 << 20, Integer.MAX_VALUE};

    public static void main(String[] args) {
        Due.due(64, "roots(0, 5)", Due.fresh(64).roots(0, 5), 1);
        Due.due(64, "roots(1, 9)", Due.fresh(64).roots(1, 9), 9);
        Due.due(64, "roots(1, 63)", Due.fresh(64).roots(1, 63), 63);
        Due.due(64, "roots(2, 3)", Due.fresh(64).roots(2, 3), 0);
        Due.due(81, "roots(1, 80)", Due.fresh(81).roots(1, 80), 80);
        Due.due(81, "roots(2, 4)", Due.fresh(81).roots(2, 4), 4);
        Due.due(81, "roots(1, 1000000)", Due.fresh(81).roots(1, GREATEST), 80);
        for (int q : Due.SIZES) {
            Reference reference = new Reference(q);
            for (int n = 1; n <= 170; n++) {
                everyElement(reference, n);
            }
            for (int n : GREAT_EXPONENTS) {
                everyElement(reference, n);
            }
            for (int n : WRONG_EXPONENTS) {
                wrongExponentIsRefused(q, n);
            }
            outsidersAreRefused(q);
        }
        Due.end();
    }

    private static void everyElement(Reference reference, int n) {
        FieldTower tower = Due.fresh(reference.q);
        int[] counts = reference.rootCounts(n);
        for (int a = 0; a < reference.q; a++) {
            Due.due(reference.q, "roots(" + a + ", " + n + ")", tower.roots(a, n), counts[a]);
        }
    }

    private static void wrongExponentIsRefused(int q, int n) {
        FieldTower tower = Due.fresh(q);
        for (int a = 0; a < q; a++) {
            Due.due(q, "roots(" + a + ", " + n + ")", tower.roots(a, n), -1);
        }
    }

    private static void outsidersAreRefused(int q) {
        FieldTower tower = Due.fresh(q);
        for (int outsider : Due.outsiders(q)) {
            for (int n : new int[] {-1, 0, 1, 2, q, GREATEST, GREATEST + 1}) {
                Due.due(q, "roots(" + outsider + ", " + n + ")", tower.roots(outsider, n), -1);
            }
        }
    }
}
