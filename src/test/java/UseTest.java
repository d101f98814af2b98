/** Promise 2: use sets q to 64 or 81 and refuses all else without a change. */
public final class UseTest {
    private static final int[] REFUSED = {
        63, 65, 80, 82, Integer.MIN_VALUE, -82, -81, -80, -65, -64, -63, -1, 0, 1, 2, 3, 4, 8, 9, 16, 27, 32, 128, 243,
        729, 4096, 64 + 256, 81 + 256, 64 + 65536, 81 + 65536, Integer.MAX_VALUE
    };

    public static void main(String[] args) {
        qBecomes64Or81();
        theLastOneCounts();
        for (int q : Due.SIZES) {
            refusesWithoutChange(q);
        }
        everyNearNumber();
        Due.end();
    }

    private static void qBecomes64Or81() {
        Due.sentence("q becomes 64 or 81. Answers 0");
        for (int before : Due.SIZES) {
            for (int after : Due.SIZES) {
                FieldTower tower = Due.fresh(before);
                Due.on(tower, before, "use(" + after + ")", 0);
                Due.fieldIs(after, tower);
            }
        }
    }

    private static void theLastOneCounts() {
        Due.sentence("q becomes 64 or 81. (again and again)");
        FieldTower tower = new FieldTower();
        for (int i = 0; i < 20; i++) {
            for (int q : new int[] {64, 81, 81}) {
                Due.due(q, "use(" + q + ")", tower.use(q), 0);
                Due.fieldIs(q, tower);
            }
        }
    }

    private static void refusesWithoutChange(int q) {
        Due.sentence("-1, and changes nothing, if it is neither.");
        for (int other : REFUSED) {
            FieldTower tower = Due.fresh(q);
            Due.on(tower, q, "use(" + other + ")", -1);
            Due.fieldIs(q, tower);
        }
    }

    private static void everyNearNumber() {
        Due.sentence("Answers 0; -1, and changes nothing, if it is neither.");
        for (int q = -300; q <= 300; q++) {
            Due.on(new FieldTower(), 64, "use(" + q + ")", q == 64 || q == 81 ? 0 : -1);
        }
    }
}
