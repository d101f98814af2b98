/** Promise 5: the inverse of the element; -1 if it is 0. */
public final class InvertTest {
    public static void main(String[] args) {
        inverse();
        ofZero();
        Due.outOfRange("invert(E)");
        Due.sentence("The inverse of the element");
        for (int q : Due.SIZES) {
            Due.everySingle(q, "invert", FieldTower::invert, new Reference(q)::inverse);
        }
        Due.end();
    }

    private static void inverse() {
        Due.sentence("The inverse of the element");
        Due.first(64, "invert(1)", 1);
        Due.first(64, "invert(2)", 33);
        Due.first(64, "invert(63)", 32);
        Due.first(81, "invert(1)", 1);
        Due.first(81, "invert(2)", 2);
        Due.first(81, "invert(3)", 29);
        Due.first(81, "invert(80)", 28);
    }

    private static void ofZero() {
        Due.sentence("-1 also if it is 0.");
        Due.first(64, "invert(0)", -1);
        Due.first(81, "invert(0)", -1);
    }
}
