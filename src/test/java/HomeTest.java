/** Promise 11: the least s, as in trace, with a^s = a. */
public final class HomeTest {
    public static void main(String[] args) {
        Due.due(64, "home(0)", Due.fresh(64).home(0), 2);
        Due.due(64, "home(59)", Due.fresh(64).home(59), 4);
        Due.due(64, "home(25)", Due.fresh(64).home(25), 8);
        Due.due(64, "home(2)", Due.fresh(64).home(2), 64);
        Due.due(81, "home(2)", Due.fresh(81).home(2), 3);
        Due.due(81, "home(68)", Due.fresh(81).home(68), 9);
        Due.due(81, "home(3)", Due.fresh(81).home(3), 81);
        for (int q : Due.SIZES) {
            Due.everySingle(q, "home", FieldTower::home, new Reference(q)::home);
        }
        Due.end();
    }
}
