/** Promise 1: a new object has the field of 64 elements in use. */
public final class NewObjectTest {
    public static void main(String[] args) {
        Due.due(64, "multiply(2, 32)", new FieldTower().multiply(2, 32), 3);
        Due.due(64, "add(63, 63)", new FieldTower().add(63, 63), 0);
        Due.due(64, "add(63, 0)", new FieldTower().add(63, 0), 63);
        Due.due(64, "add(64, 0)", new FieldTower().add(64, 0), -1);
        Due.due(64, "home(2)", new FieldTower().home(2), 64);
        objectsAreApart();
        Due.end();
    }

    private static void objectsAreApart() {
        FieldTower first = new FieldTower();
        FieldTower second = new FieldTower();
        Due.due(64, "use(81)", first.use(81), 0);
        Due.due(64, "multiply(2, 32) on the other object", second.multiply(2, 32), 3);
        FieldTower third = new FieldTower();
        Due.due(64, "home(2) on a later object", third.home(2), 64);
        Due.due(81, "multiply(3, 27) on the first object", first.multiply(3, 27), 4);
    }
}
