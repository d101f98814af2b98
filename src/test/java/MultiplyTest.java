/** Promise 4: the product of the elements, reduced by t^6 = t + 1 or t^4 = t + 1. */
public final class MultiplyTest {
    public static void main(String[] args) {
        Due.due(64, "multiply(2, 32)", Due.fresh(64).multiply(2, 32), 3);
        Due.due(64, "multiply(63, 63)", Due.fresh(64).multiply(63, 63), 42);
        Due.due(81, "multiply(3, 27)", Due.fresh(81).multiply(3, 27), 4);
        Due.due(81, "multiply(80, 80)", Due.fresh(81).multiply(80, 80), 58);
        for (int q : Due.SIZES) {
            Due.everyPair(q, "multiply", FieldTower::multiply, new Reference(q)::product);
        }
        Due.end();
    }
}
