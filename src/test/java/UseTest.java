/** Promise 2: use sets q to 64 or 81 and refuses all else without a change. */
public final class UseTest {
    private static final int[] REFUSED = {
        Integer.MIN_VALUE, -81, -64, -1, 0, 1, 2, 3, 4, 8, 9, 16, 27, 32, 63, 65, 80, 82, 128, 243, 729, 4096,
        64 + 256, 81 + 256, 64 + 65536, 81 + 65536, Integer.MAX_VALUE
    };

    public static void main(String[] args) {
        goesBackAndForth();
        for (int q : Due.SIZES) {
            refusesWithoutChange(q);
        }
        for (int q = -300; q <= 300; q++) {
            Due.due(64, "use(" + q + ")", new FieldTower().use(q), q == 64 || q == 81 ? 0 : -1);
        }
        Due.end();
    }

    private static void goesBackAndForth() {
        FieldTower tower = new FieldTower();
        for (int i = 0; i < 5; i++) {
            Due.due(64, "use(64)", tower.use(64), 0);
            fieldIs(64, tower);
            Due.due(64, "use(81)", tower.use(81), 0);
            fieldIs(81, tower);
            Due.due(81, "use(81)", tower.use(81), 0);
            fieldIs(81, tower);
        }
    }

    private static void refusesWithoutChange(int q) {
        FieldTower tower = Due.fresh(q);
        for (int other : REFUSED) {
            Due.due(q, "use(" + other + ")", tower.use(other), -1);
            fieldIs(q, tower);
        }
    }

    private static void fieldIs(int q, FieldTower tower) {
        Due.due(q, "add(" + (q - 1) + ", 0)", tower.add(q - 1, 0), q - 1);
        Due.due(q, "add(" + q + ", 0)", tower.add(q, 0), -1);
        Due.due(q, "add(1, 1)", tower.add(1, 1), q == 64 ? 0 : 2);
        Due.due(q, "multiply(3, 27)", tower.multiply(3, 27), q == 64 ? 45 : 4);
        Due.due(q, "home(0)", tower.home(0), q == 64 ? 2 : 3);
    }
}
