/** Promise 1: a new object has the field of 64 elements in use. */
public final class NewObjectTest {
    public static void main(String[] args) {
        qIs64();
        objectsAreApart();
        Due.end();
    }

    private static void qIs64() {
        Due.sentence("q is 64.");
        Due.fieldIs(64, new FieldTower());
        Due.on(new FieldTower(), 64, "add(63, 0)", 63);
        Due.on(new FieldTower(), 64, "add(64, 0)", -1);
        Due.on(new FieldTower(), 64, "multiply(2, 32)", 3);
        Due.on(new FieldTower(), 64, "invert(63)", 32);
        Due.on(new FieldTower(), 64, "invert(64)", -1);
        Due.on(new FieldTower(), 64, "power(2, 63)", 1);
        Due.on(new FieldTower(), 64, "order(2)", 63);
        Due.on(new FieldTower(), 64, "root(63)", 56);
        Due.on(new FieldTower(), 64, "roots(1, 63)", 63);
        Due.on(new FieldTower(), 64, "trace(63, 64)", 63);
        Due.on(new FieldTower(), 64, "trace(63, 81)", -1);
        Due.on(new FieldTower(), 64, "home(2)", 64);
        Due.on(new FieldTower(), 64, "logarithm(2, 33)", 62);
        FieldTower refusedFirst = new FieldTower();
        Due.on(refusedFirst, 64, "use(0)", -1);
        Due.fieldIs(64, refusedFirst);
    }

    private static void objectsAreApart() {
        Due.sentence("q is 64. (whatever is in use in another object)");
        FieldTower first = new FieldTower();
        FieldTower second = new FieldTower();
        Due.on(first, 64, "use(81)", 0);
        Due.fieldIs(64, second);
        Due.fieldIs(64, new FieldTower());
        Due.fieldIs(81, first);
    }
}
