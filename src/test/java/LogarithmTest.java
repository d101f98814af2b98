/** Promise 12: the least n with g^n = a; -1 if there is none, or g or a is 0. */
public final class LogarithmTest {
    public static void main(String[] args) {
        least();
        none();
        ofZero();
        outOfRange();
        Due.sentence("The least n >= 0 with g^n = a; -1 also if there is none, or g or a is 0.");
        for (int q : Due.SIZES) {
            Due.everyPair(q, "logarithm", FieldTower::logarithm, new Reference(q)::logarithm);
        }
        Due.end();
    }

    /** From 0, the least logarithm of all, to q - 2, the greatest; a whole round of the powers leads back to 0. */
    private static void least() {
        Due.sentence("The least n >= 0 with g^n = a");
        Due.first(64, "logarithm(1, 1)", 0);
        Due.first(64, "logarithm(2, 1)", 0);
        Due.first(64, "logarithm(63, 1)", 0);
        Due.first(64, "logarithm(2, 2)", 1);
        Due.first(64, "logarithm(2, 3)", 6);
        Due.first(64, "logarithm(63, 63)", 1);
        Due.first(64, "logarithm(2, 63)", 58);
        Due.first(64, "logarithm(2, 33)", 62);
        Due.first(81, "logarithm(1, 1)", 0);
        Due.first(81, "logarithm(3, 1)", 0);
        Due.first(81, "logarithm(80, 1)", 0);
        Due.first(81, "logarithm(80, 80)", 1);
        Due.first(81, "logarithm(3, 80)", 68);
        Due.first(81, "logarithm(3, 29)", 79);
    }

    private static void none() {
        Due.sentence("-1 also if there is none");
        Due.first(64, "logarithm(1, 2)", -1);
        Due.first(64, "logarithm(3, 2)", -1);
        Due.first(81, "logarithm(1, 2)", -1);
        Due.first(81, "logarithm(2, 3)", -1);
    }

    private static void ofZero() {
        Due.sentence("-1 also if there is none, or g or a is 0.");
        for (int q : Due.SIZES) {
            Due.first(q, "logarithm(0, 0)", -1);
            Due.first(q, "logarithm(0, 1)", -1);
            Due.first(q, "logarithm(0, " + (q - 1) + ")", -1);
            Due.first(q, "logarithm(1, 0)", -1);
            Due.first(q, "logarithm(" + (q - 1) + ", 0)", -1);
        }
    }

    private static void outOfRange() {
        Due.outOfRange("logarithm(E, 1)");
        Due.outOfRange("logarithm(3, E)");
        Due.outOfRange("logarithm(E, 0)");
        Due.outOfRange("logarithm(0, E)");
        Due.outOfRange("logarithm(E, E)");
    }
}
