/** What it is: an object is used for at most 512 calls, so that the 512th still answers by the document. */
public final class LastCallTest {
    private static final int CALLS = 512;
    private static final String[] WITH_64 = {
        "use(64)", "use(81)", "add(63, 1)", "multiply(63, 63)", "invert(63)", "power(2, 62)", "order(63)", "root(63)",
        "roots(1, 63)", "trace(63, 4)", "home(63)", "logarithm(2, 33)"
    };
    private static final int[] DUE_WITH_64 = {0, 0, 62, 42, 32, 33, 63, 56, 63, 58, 64, 62};
    private static final String[] WITH_81 = {
        "use(64)", "use(81)", "add(80, 80)", "multiply(80, 80)", "invert(80)", "power(3, 999999)", "order(3)",
        "root(80)", "roots(1, 1000000)", "trace(80, 9)", "home(80)", "logarithm(3, 29)"
    };
    private static final int[] DUE_WITH_81 = {0, 0, 40, 58, 28, 29, 80, 14, 80, 52, 81, 79};
    private static final String[] REFUSED = {
        "use(63)", "add(81, 0)", "multiply(0, -1)", "invert(0)", "power(1, 1000001)", "order(0)", "root(81)",
        "roots(1, 0)", "trace(1, 16)", "home(-1)", "logarithm(0, 1)"
    };

    public static void main(String[] args) {
        Due.sentence("An object is used for at most 512 calls after it has been made");
        for (int i = 0; i < WITH_64.length; i++) {
            afterOneKindOfCall(64, WITH_64[i], DUE_WITH_64[i]);
            afterOneKindOfCall(81, WITH_81[i], DUE_WITH_81[i]);
        }
        for (String call : REFUSED) {
            afterOneKindOfCall(64, call, -1);
            afterOneKindOfCall(81, call, -1);
        }
        theFieldChangesToTheEnd();
        laterCallsEnd();
        Due.end();
    }

    /** 510 calls of one kind, the use of q as the 511th, and the one that is looked at as the 512th. */
    private static void afterOneKindOfCall(int q, String lastCall, int want) {
        for (String kind : q == 64 ? WITH_64 : WITH_81) {
            FieldTower tower = new FieldTower();
            Call before = new Call(kind);
            for (int made = 0; made < CALLS - 2; made++) {
                before.on(tower);
            }
            Due.on(tower, q, "use(" + q + ")", 0);
            Due.on(tower, q, lastCall, want);
        }
    }

    private static void theFieldChangesToTheEnd() {
        Due.sentence("An object is used for at most 512 calls after it has been made (every second one use)");
        FieldTower tower = new FieldTower();
        for (int made = 0; made < CALLS; made += 2) {
            int q = made % 4 == 0 ? 81 : 64;
            Due.on(tower, q, "use(" + q + ")", 0);
            Due.on(tower, q, "add(" + (q - 1) + ", 0)", q - 1);
        }
    }

    /** What the 513th call answers is free, but it too must end without an exception. */
    private static void laterCallsEnd() {
        FieldTower tower = new FieldTower();
        for (int made = 0; made < 3 * CALLS; made++) {
            new Call(WITH_64[made % WITH_64.length]).on(tower);
        }
    }
}
