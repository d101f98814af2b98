/** Counts the answers that are not as due; a test ends with exit code 1 if there was one. */
final class Due {
    static final int[] SIZES = {64, 81};

    private static int checked = 0;
    private static int wrong = 0;

    private Due() {
    }

    static void due(int q, String call, int got, int want) {
        checked++;
        if (got != want) {
            wrong++;
            System.out.println("q = " + q + ": " + call + " answered " + got + ", due is " + want);
        }
    }

    /** A new object each time, since nothing is promised after an object's 512th call. */
    static FieldTower fresh(int q) {
        FieldTower tower = new FieldTower();
        if (q != 64) {
            due(64, "use(" + q + ")", tower.use(q), 0);
        }
        return tower;
    }

    /** Numbers that are not elements; for q = 64 the elements of the greater field are among them. */
    static int[] outsiders(int q) {
        return new int[] {-1, -2, -q, q, q + 1, q == 64 ? 80 : 100, 1000000, Integer.MIN_VALUE, Integer.MAX_VALUE};
    }

    static void end() {
        System.out.println(checked + " answers checked, " + wrong + " not as due");
        if (wrong != 0 || checked == 0) {
            System.exit(1);
        }
    }
}
