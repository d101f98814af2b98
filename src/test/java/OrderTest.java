/** Promise 7: the order of the element; -1 if it is 0. */
public final class OrderTest {
    public static void main(String[] args) {
        leastAndGreatest();
        ofZero();
        Due.outOfRange("order(E)");
        Due.sentence("The order of the element");
        for (int q : Due.SIZES) {
            Due.everySingle(q, "order", FieldTower::order, new Reference(q)::order);
        }
        Due.end();
    }

    private static void leastAndGreatest() {
        Due.sentence("The ORDER of an element other than 0 is the least n >= 1 with a^n = 1.");
        Due.first(64, "order(1)", 1);
        Due.first(64, "order(59)", 3);
        Due.first(64, "order(3)", 21);
        Due.first(64, "order(2)", 63);
        Due.first(64, "order(63)", 63);
        Due.first(81, "order(1)", 1);
        Due.first(81, "order(2)", 2);
        Due.first(81, "order(80)", 20);
        Due.first(81, "order(3)", 80);
    }

    private static void ofZero() {
        Due.sentence("-1 also if it is 0.");
        Due.first(64, "order(0)", -1);
        Due.first(81, "order(0)", -1);
    }
}
