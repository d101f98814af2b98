/** Promise 12: the least n with g^n = a; -1 if there is none, or g or a is 0. */
public final class LogarithmTest {
    public static void main(String[] args) {
        Due.due(64, "logarithm(2, 3)", Due.fresh(64).logarithm(2, 3), 6);
        Due.due(64, "logarithm(3, 2)", Due.fresh(64).logarithm(3, 2), -1);
        Due.due(64, "logarithm(1, 1)", Due.fresh(64).logarithm(1, 1), 0);
        Due.due(64, "logarithm(2, 33)", Due.fresh(64).logarithm(2, 33), 62);
        Due.due(64, "logarithm(0, 0)", Due.fresh(64).logarithm(0, 0), -1);
        Due.due(64, "logarithm(0, 1)", Due.fresh(64).logarithm(0, 1), -1);
        Due.due(64, "logarithm(1, 0)", Due.fresh(64).logarithm(1, 0), -1);
        Due.due(81, "logarithm(3, 80)", Due.fresh(81).logarithm(3, 80), 68);
        Due.due(81, "logarithm(3, 29)", Due.fresh(81).logarithm(3, 29), 79);
        for (int q : Due.SIZES) {
            Due.everyPair(q, "logarithm", FieldTower::logarithm, new Reference(q)::logarithm);
        }
        Due.end();
    }
}
