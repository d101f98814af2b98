/** Promise 5: the inverse of the element; -1 if it is 0. */
public final class InvertTest {
    public static void main(String[] args) {
        Due.due(64, "invert(0)", Due.fresh(64).invert(0), -1);
        Due.due(64, "invert(1)", Due.fresh(64).invert(1), 1);
        Due.due(64, "invert(2)", Due.fresh(64).invert(2), 33);
        Due.due(81, "invert(0)", Due.fresh(81).invert(0), -1);
        Due.due(81, "invert(2)", Due.fresh(81).invert(2), 2);
        Due.due(81, "invert(80)", Due.fresh(81).invert(80), 28);
        for (int q : Due.SIZES) {
            Due.everySingle(q, "invert", FieldTower::invert, new Reference(q)::inverse);
        }
        Due.end();
    }
}
