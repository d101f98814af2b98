/** Promise 8: the least element whose square is a; -1 if there is none. */
public final class RootTest {
    public static void main(String[] args) {
        least();
        none();
        Due.outOfRange("root(E)");
        Due.sentence("The least element r with r * r = a; -1 also if there is none.");
        for (int q : Due.SIZES) {
            Due.everySingle(q, "root", FieldTower::root, new Reference(q)::root);
        }
        Due.end();
    }

    /** With q = 81 every square but 0 has two roots, and the smaller one is due. */
    private static void least() {
        Due.sentence("The least element r with r * r = a");
        Due.first(64, "root(0)", 0);
        Due.first(64, "root(1)", 1);
        Due.first(64, "root(2)", 9);
        Due.first(64, "root(42)", 63);
        Due.first(64, "root(63)", 56);
        Due.first(81, "root(0)", 0);
        Due.first(81, "root(1)", 1);
        Due.first(81, "root(2)", 51);
        Due.first(81, "root(9)", 3);
        Due.first(81, "root(80)", 14);
    }

    /** With q = 64 every element is a square, so that only q = 81 has elements without a root. */
    private static void none() {
        Due.sentence("-1 also if there is none.");
        Due.first(81, "root(3)", -1);
        Due.first(81, "root(79)", -1);
    }
}
