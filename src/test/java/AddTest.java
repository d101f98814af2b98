/** Promise 3: the sum of the elements, coefficient by coefficient modulo p. */
public final class AddTest {
    public static void main(String[] args) {
        Due.due(64, "add(13, 27)", Due.fresh(64).add(13, 27), 22);
        Due.due(81, "add(80, 80)", Due.fresh(81).add(80, 80), 40);
        Due.due(81, "add(41, 40)", Due.fresh(81).add(41, 40), 78);
        for (int q : Due.SIZES) {
            Due.everyPair(q, "add", FieldTower::add, new Reference(q)::sum);
        }
        Due.end();
    }
}
