/** Promise 7: the order of the element; -1 if it is 0. */
public final class OrderTest {
    public static void main(String[] args) {
        Due.due(64, "order(0)", Due.fresh(64).order(0), -1);
        Due.due(64, "order(1)", Due.fresh(64).order(1), 1);
        Due.due(64, "order(2)", Due.fresh(64).order(2), 63);
        Due.due(64, "order(3)", Due.fresh(64).order(3), 21);
        Due.due(81, "order(0)", Due.fresh(81).order(0), -1);
        Due.due(81, "order(2)", Due.fresh(81).order(2), 2);
        Due.due(81, "order(3)", Due.fresh(81).order(3), 80);
        for (int q : Due.SIZES) {
            Due.everySingle(q, "order", FieldTower::order, new Reference(q)::order);
        }
        Due.end();
    }
}
