/** The terms: the elements are the numbers 0 to q - 1 of the field in use, at every place of every call. */
public final class ElementsTest {
    public static void main(String[] args) {
        edgesOf64();
        edgesOf81();
        rangeFollowsTheField();
        Due.end();
    }

    private static void edgesOf64() {
        Due.sentence("written as the numbers 0 to q - 1 (q = 64)");
        edges(64, "add(E, 0)", 0, 63);
        edges(64, "add(0, E)", 0, 63);
        edges(64, "multiply(E, 1)", 0, 63);
        edges(64, "multiply(1, E)", 0, 63);
        edges(64, "invert(E)", -1, 32);
        edges(64, "power(E, 0)", 1, 1);
        edges(64, "power(E, 1)", 0, 63);
        edges(64, "order(E)", -1, 63);
        edges(64, "root(E)", 0, 56);
        edges(64, "roots(E, 1)", 1, 1);
        edges(64, "trace(E, 64)", 0, 63);
        edges(64, "home(E)", 2, 64);
        edges(64, "logarithm(E, 1)", -1, 0);
        edges(64, "logarithm(2, E)", -1, 58);
    }

    private static void edgesOf81() {
        Due.sentence("written as the numbers 0 to q - 1 (q = 81)");
        edges(81, "add(E, 0)", 0, 80);
        edges(81, "add(0, E)", 0, 80);
        edges(81, "multiply(E, 1)", 0, 80);
        edges(81, "multiply(1, E)", 0, 80);
        edges(81, "invert(E)", -1, 28);
        edges(81, "power(E, 0)", 1, 1);
        edges(81, "power(E, 1)", 0, 80);
        edges(81, "order(E)", -1, 20);
        edges(81, "root(E)", 0, 14);
        edges(81, "roots(E, 1)", 1, 1);
        edges(81, "trace(E, 81)", 0, 80);
        edges(81, "home(E)", 3, 81);
        edges(81, "logarithm(E, 1)", -1, 0);
        edges(81, "logarithm(3, E)", -1, 68);
    }

    /** The first and the last number inside, and the first one outside on either side. */
    private static void edges(int q, String call, int atFirst, int atLast) {
        Due.first(q, Due.at(call, 0), atFirst);
        Due.first(q, Due.at(call, q - 1), atLast);
        Due.first(q, Due.at(call, -1), -1);
        Due.first(q, Due.at(call, q), -1);
    }

    /** The numbers 64 to 80 are elements while q is 81, and none before or after. */
    private static void rangeFollowsTheField() {
        Due.sentence("THE FIELD in use has q elements");
        for (int a = 64; a <= 80; a++) {
            FieldTower tower = new FieldTower();
            moves(tower, "add(E, 0)", a, a);
            moves(tower, "add(0, E)", a, a);
            moves(tower, "multiply(E, 1)", a, a);
            moves(tower, "multiply(1, E)", a, a);
            moves(tower, "power(E, 1)", a, a);
            moves(tower, "roots(E, 1)", a, 1);
            moves(tower, "logarithm(E, E)", a, 1);
        }
        FieldTower tower = new FieldTower();
        moves(tower, "invert(E)", 64, 9);
        moves(tower, "order(E)", 64, 40);
        moves(tower, "root(E)", 64, 29);
        moves(tower, "root(E)", 80, 14);
        moves(tower, "home(E)", 64, 81);
        moves(tower, "trace(E, 81)", 64, 64);
    }

    private static void moves(FieldTower tower, String call, int a, int with81) {
        Due.on(tower, 64, Due.at(call, a), -1);
        Due.on(tower, 64, "use(81)", 0);
        Due.on(tower, 81, Due.at(call, a), with81);
        Due.on(tower, 81, "use(64)", 0);
        Due.on(tower, 64, Due.at(call, a), -1);
    }
}
