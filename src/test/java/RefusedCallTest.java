import java.util.ArrayList;
import java.util.List;

/** A refused call answers -1 and changes nothing: all that the object answers afterwards is as before. */
public final class RefusedCallTest {
    private static final String[] PLACES_OF_ELEMENTS = {
        "add(E, 1)", "add(1, E)", "multiply(E, 1)", "multiply(1, E)", "invert(E)", "power(E, 2)", "order(E)", "root(E)",
        "roots(E, 2)", "trace(E, 64)", "trace(E, 81)", "home(E)", "logarithm(E, 1)", "logarithm(3, E)"
    };
    private static final String[] REFUSED_WITH_EITHER_FIELD = {
        "use(63)", "use(65)", "use(80)", "use(82)", "use(0)", "use(-64)", "use(-81)", "invert(0)", "order(0)",
        "power(1, -1)", "power(1, 1000001)", "power(0, -1)", "roots(1, 0)", "roots(1, -1)", "roots(1, 1000001)",
        "trace(1, 0)", "trace(1, 1)", "trace(1, 16)", "trace(1, 27)", "trace(1, 32)", "trace(1, -2)", "logarithm(0, 0)",
        "logarithm(0, 1)", "logarithm(1, 0)", "logarithm(1, 2)"
    };
    private static final String[] REFUSED_WITH_64 = {"trace(1, 3)", "trace(1, 9)", "trace(1, 81)", "logarithm(3, 2)"};
    private static final String[] REFUSED_WITH_81 = {
        "trace(1, 2)", "trace(1, 4)", "trace(1, 8)", "trace(1, 64)", "root(3)", "root(79)", "logarithm(2, 3)"
    };

    public static void main(String[] args) {
        for (int q : Due.SIZES) {
            Reference reference = new Reference(q);
            for (String call : refusedCalls(q)) {
                changesNothing(reference, call);
            }
            allInARow(q);
        }
        Due.end();
    }

    private static List<String> refusedCalls(int q) {
        List<String> calls = new ArrayList<>(List.of(REFUSED_WITH_EITHER_FIELD));
        calls.addAll(List.of(q == 64 ? REFUSED_WITH_64 : REFUSED_WITH_81));
        for (String place : PLACES_OF_ELEMENTS) {
            for (int outsider : new int[] {-1, q, Integer.MIN_VALUE, Integer.MAX_VALUE}) {
                calls.add(Due.at(place, outsider));
            }
        }
        return calls;
    }

    private static void changesNothing(Reference reference, String call) {
        Due.sentence("the call answers -1 (and changes nothing, after " + call + ")");
        FieldTower tower = Due.fresh(reference.q);
        Due.on(tower, reference.q, call, -1);
        answersAsBefore(reference, tower);
    }

    /** As much of the field as the 512 calls of one object have room for. */
    private static void answersAsBefore(Reference reference, FieldTower tower) {
        int q = reference.q;
        Due.fieldIs(q, tower);
        int last = q - 1;
        for (int a = 0; a < q; a++) {
            Due.due(q, "add(" + a + ", " + last + ")", tower.add(a, last), reference.sum(a, last));
            Due.due(q, "multiply(" + a + ", " + last + ")", tower.multiply(a, last), reference.product(a, last));
            Due.due(q, "invert(" + a + ")", tower.invert(a), reference.inverse(a));
            Due.due(q, "order(" + a + ")", tower.order(a), reference.order(a));
            Due.due(q, "root(" + a + ")", tower.root(a), reference.root(a));
            Due.due(q, "home(" + a + ")", tower.home(a), reference.home(a));
        }
        Due.on(tower, q, "power(2, 999999)", q == 64 ? 1 : 2);
        Due.on(tower, q, "roots(1, " + last + ")", last);
        Due.on(tower, q, "trace(5, " + q + ")", 5);
        Due.on(tower, q, "logarithm(3, 1)", 0);
    }

    /** Refused calls do not add up to a change either, and leave the way to the other field open. */
    private static void allInARow(int q) {
        Due.sentence("the call answers -1 (and changes nothing, after many such calls)");
        FieldTower tower = Due.fresh(q);
        for (String call : refusedCalls(q)) {
            Due.on(tower, q, call, -1);
        }
        Due.fieldIs(q, tower);
        int other = q == 64 ? 81 : 64;
        Due.on(tower, q, "use(" + other + ")", 0);
        Due.fieldIs(other, tower);
    }
}
