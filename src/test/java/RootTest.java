/** Promise 8: the least element whose square is a; -1 if there is none. */
public final class RootTest {
    public static void main(String[] args) {
        Due.due(64, "root(0)", Due.fresh(64).root(0), 0);
        Due.due(64, "root(2)", Due.fresh(64).root(2), 9);
        Due.due(81, "root(0)", Due.fresh(81).root(0), 0);
        Due.due(81, "root(1)", Due.fresh(81).root(1), 1);
        Due.due(81, "root(2)", Due.fresh(81).root(2), 51);
        Due.due(81, "root(3)", Due.fresh(81).root(3), -1);
        for (int q : Due.SIZES) {
            Due.everySingle(q, "root", FieldTower::root, new Reference(q)::root);
        }
        Due.end();
    }
}
