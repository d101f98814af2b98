/** Promise 11: the least s, as in trace, with a^s = a. */
public final class HomeTest {
    public static void main(String[] args) {
        least();
        Due.outOfRange("home(E)");
        Due.sentence("The least s (as in trace) such that a^s = a.");
        for (int q : Due.SIZES) {
            Due.everySingle(q, "home", FieldTower::home, new Reference(q)::home);
        }
        Due.end();
    }

    /** The first and the last element of each home. */
    private static void least() {
        Due.sentence("The least s (as in trace) such that a^s = a.");
        Due.first(64, "home(0)", 2);
        Due.first(64, "home(1)", 2);
        Due.first(64, "home(58)", 4);
        Due.first(64, "home(59)", 4);
        Due.first(64, "home(14)", 8);
        Due.first(64, "home(25)", 8);
        Due.first(64, "home(2)", 64);
        Due.first(64, "home(63)", 64);
        Due.first(81, "home(0)", 3);
        Due.first(81, "home(2)", 3);
        Due.first(81, "home(51)", 9);
        Due.first(81, "home(68)", 9);
        Due.first(81, "home(3)", 81);
        Due.first(81, "home(80)", 81);
    }
}
