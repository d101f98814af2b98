import java.util.function.IntBinaryOperator;
import java.util.function.IntUnaryOperator;

/** Counts the answers that are not as due; a test ends with exit code 1 if there was one. */
final class Due {
    static final int[] SIZES = {64, 81};

    private static String sentence = "";
    private static int checked = 0;
    private static int wrong = 0;

    private Due() {
    }

    /** The document's words, with an addition in brackets, that the checks from here on are about. */
    static void sentence(String words) {
        sentence = words;
    }

    static void due(int q, String call, int got, int want) {
        checked++;
        if (got != want) {
            wrong++;
            System.out.println(sentence + " | q = " + q + ": " + call + " answered " + got + ", due is " + want);
        }
    }

    /** For what is not the answer of a call, such as the list of the class's methods. */
    static void same(String what, Object found, Object want) {
        checked++;
        if (!found.equals(want)) {
            wrong++;
            System.out.println(sentence + " | " + what + ": found " + found + ", due is " + want);
        }
    }

    /** One call on an object that has q in use. */
    static void on(FieldTower tower, int q, String call, int want) {
        due(q, call, new Call(call).on(tower), want);
    }

    /** One call on a new object with q in use. */
    static void first(int q, String call, int want) {
        on(fresh(q), q, call, want);
    }

    /** A new object each time, since nothing is promised after an object's 512th call. */
    static FieldTower fresh(int q) {
        FieldTower tower = new FieldTower();
        if (q != 64) {
            due(64, "use(" + q + ")", tower.use(q), 0);
        }
        return tower;
    }

    /** Answers in which the two fields differ, so that they tell which one is in use. */
    static void fieldIs(int q, FieldTower tower) {
        on(tower, q, "add(" + (q - 1) + ", 0)", q - 1);
        on(tower, q, "add(" + q + ", 0)", -1);
        on(tower, q, "add(1, 1)", q == 64 ? 0 : 2);
        on(tower, q, "multiply(3, 27)", q == 64 ? 45 : 4);
        on(tower, q, "home(0)", q == 64 ? 2 : 3);
    }

    /** Numbers that are not elements; for q = 64 the elements of the greater field are among them. */
    static int[] outsiders(int q) {
        return new int[] {-1, -2, -q, q, q + 1, q == 64 ? 80 : 100, 1000000, Integer.MIN_VALUE, Integer.MAX_VALUE};
    }

    /** The range's sentence for the argument that stands as E in the call: the first numbers outside, and far ones. */
    static void outOfRange(String call) {
        sentence("An element out of range is refused: the call answers -1.");
        for (int q : SIZES) {
            for (int outsider : outsiders(q)) {
                first(q, at(call, outsider), -1);
            }
        }
    }

    /** The call with a number in E's place. */
    static String at(String call, int number) {
        return call.replace("E", Integer.toString(number));
    }

    interface SingleCall {
        int on(FieldTower tower, int a);
    }

    interface PairCall {
        int on(FieldTower tower, int a, int b);
    }

    /** Every element, and numbers that are none, as the one argument. */
    static void everySingle(int q, String name, SingleCall call, IntUnaryOperator term) {
        FieldTower tower = fresh(q);
        for (int a = 0; a < q; a++) {
            due(q, name + "(" + a + ")", call.on(tower, a), term.applyAsInt(a));
        }
        for (int outsider : outsiders(q)) {
            due(q, name + "(" + outsider + ")", call.on(tower, outsider), -1);
        }
    }

    /** Every pair of elements, and pairs in which one or both are none. */
    static void everyPair(int q, String name, PairCall call, IntBinaryOperator term) {
        for (int a = 0; a < q; a++) {
            FieldTower tower = fresh(q);
            for (int b = 0; b < q; b++) {
                due(q, name + "(" + a + ", " + b + ")", call.on(tower, a, b), term.applyAsInt(a, b));
            }
            for (int outsider : outsiders(q)) {
                due(q, name + "(" + a + ", " + outsider + ")", call.on(tower, a, outsider), -1);
                due(q, name + "(" + outsider + ", " + a + ")", call.on(tower, outsider, a), -1);
            }
        }
        for (int outsider : outsiders(q)) {
            due(q, name + "(" + outsider + ", " + outsider + ")", call.on(fresh(q), outsider, outsider), -1);
        }
    }

    static void end() {
        System.out.println(checked + " answers checked, " + wrong + " not as due");
        if (wrong != 0 || checked == 0) {
            System.exit(1);
        }
    }
}
