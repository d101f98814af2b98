/** Promise 5: the inverse of the element; -1 if it is 0. */
public final class InvertTest {
    public static void main(String[] args) {
        inverse();
        exactlyOne();
        ofZero();
        Due.outOfRange("invert(E)");
        Due.sentence("The inverse of the element");
        for (int q : Due.SIZES) {
            Due.everySingle(q, "invert", FieldTower::invert, new Reference(q)::inverse);
        }
        Due.end();
    }

    private static void inverse() {
        Due.sentence("The inverse of the element");
        Due.first(64, "invert(1)", 1);
        Due.first(64, "invert(2)", 33);
        Due.first(64, "invert(63)", 32);
        Due.first(81, "invert(1)", 1);
        Due.first(81, "invert(2)", 2);
        Due.first(81, "invert(3)", 29);
        Due.first(81, "invert(80)", 28);
    }

    /** By the class's own products, without the second reckoning. */
    private static void exactlyOne() {
        Due.sentence("every element other than 0 has exactly one INVERSE, with which its product is 1");
        for (int q : Due.SIZES) {
            for (int a = 1; a < q; a++) {
                FieldTower tower = Due.fresh(q);
                int inverse = tower.invert(a);
                for (int b = 0; b < q; b++) {
                    boolean isOne = tower.multiply(a, b) == 1;
                    Due.due(q, "multiply(" + a + ", " + b + ") == 1", isOne ? 1 : 0, b == inverse ? 1 : 0);
                }
            }
        }
    }

    private static void ofZero() {
        Due.sentence("-1 also if it is 0.");
        Due.first(64, "invert(0)", -1);
        Due.first(81, "invert(0)", -1);
    }
}
