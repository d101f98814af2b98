/** Promise 4: the product of the elements, reduced by t^6 = t + 1 or t^4 = t + 1. */
public final class MultiplyTest {
    public static void main(String[] args) {
        reducedBySixthPower();
        reducedByFourthPower();
        outOfRange();
        Due.sentence("The product of the elements.");
        for (int q : Due.SIZES) {
            Due.everyPair(q, "multiply", FieldTower::multiply, new Reference(q)::product);
        }
        Due.end();
    }

    /** t^5 is the last power that stays, t^6 the first one replaced, t^10 the greatest one that two elements make. */
    private static void reducedBySixthPower() {
        Due.sentence("reduced by t^6 = t + 1 if q = 64");
        Due.first(64, "multiply(2, 16)", 32);
        Due.first(64, "multiply(2, 32)", 3);
        Due.first(64, "multiply(32, 2)", 3);
        Due.first(64, "multiply(32, 32)", 48);
        Due.first(64, "multiply(63, 63)", 42);
        Due.first(64, "multiply(63, 32)", 1);
        Due.first(64, "multiply(0, 63)", 0);
        Due.first(64, "multiply(63, 1)", 63);
        Due.first(64, "multiply(1, 63)", 63);
    }

    /** As for q = 64, with t^3, t^4 and t^6; a coefficient 2 times 2 wraps round to 1. */
    private static void reducedByFourthPower() {
        Due.sentence("by t^4 = t + 1 if q = 81");
        Due.first(81, "multiply(3, 9)", 27);
        Due.first(81, "multiply(3, 27)", 4);
        Due.first(81, "multiply(27, 3)", 4);
        Due.first(81, "multiply(27, 27)", 36);
        Due.first(81, "multiply(27, 54)", 72);
        Due.first(81, "multiply(54, 54)", 36);
        Due.first(81, "multiply(2, 2)", 1);
        Due.first(81, "multiply(80, 80)", 58);
        Due.first(81, "multiply(80, 28)", 1);
        Due.first(81, "multiply(0, 80)", 0);
        Due.first(81, "multiply(80, 1)", 80);
        Due.first(81, "multiply(1, 80)", 80);
    }

    private static void outOfRange() {
        Due.outOfRange("multiply(E, 0)");
        Due.outOfRange("multiply(0, E)");
        Due.outOfRange("multiply(E, 1)");
        Due.outOfRange("multiply(1, E)");
        Due.outOfRange("multiply(E, E)");
    }
}
