/** Promise 3: the sum of the elements, coefficient by coefficient modulo p. */
public final class AddTest {
    public static void main(String[] args) {
        modulo2();
        modulo3();
        outOfRange();
        Due.sentence("The sum of the elements.");
        for (int q : Due.SIZES) {
            Due.everyPair(q, "add", FieldTower::add, new Reference(q)::sum);
        }
        Due.end();
    }

    private static void modulo2() {
        Due.sentence("Sums are made coefficient by coefficient modulo p. (p = 2)");
        Due.first(64, "add(0, 0)", 0);
        Due.first(64, "add(0, 1)", 1);
        Due.first(64, "add(1, 1)", 0);
        Due.first(64, "add(31, 1)", 30);
        Due.first(64, "add(32, 32)", 0);
        Due.first(64, "add(63, 0)", 63);
        Due.first(64, "add(0, 63)", 63);
        Due.first(64, "add(63, 1)", 62);
        Due.first(64, "add(63, 63)", 0);
        Due.first(64, "add(13, 27)", 22);
    }

    private static void modulo3() {
        Due.sentence("Sums are made coefficient by coefficient modulo p. (p = 3)");
        Due.first(81, "add(0, 0)", 0);
        Due.first(81, "add(1, 1)", 2);
        Due.first(81, "add(2, 1)", 0);
        Due.first(81, "add(2, 2)", 1);
        Due.first(81, "add(26, 1)", 24);
        Due.first(81, "add(27, 27)", 54);
        Due.first(81, "add(27, 54)", 0);
        Due.first(81, "add(54, 54)", 27);
        Due.first(81, "add(80, 0)", 80);
        Due.first(81, "add(0, 80)", 80);
        Due.first(81, "add(80, 1)", 78);
        Due.first(81, "add(80, 80)", 40);
        Due.first(81, "add(41, 40)", 78);
    }

    private static void outOfRange() {
        Due.outOfRange("add(E, 0)");
        Due.outOfRange("add(0, E)");
        Due.outOfRange("add(E, 1)");
        Due.outOfRange("add(1, E)");
        Due.outOfRange("add(E, E)");
    }
}
