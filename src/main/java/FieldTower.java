/** The field of 81 elements over those of 9 and 3, and of 64 over those of 8, 4 and 2. */
public final class FieldTower {
    private static final int BINARY_SIZE = 64;
    private static final int TERNARY_SIZE = 81;
    private static final int GREATEST_EXPONENT = 1000000;
    /** 2^20 is the first power of 2 above GREATEST_EXPONENT. */
    private static final int EXPONENT_BITS = 20;
    private static final int REFUSED = -1;

    /** Always BINARY_SIZE or TERNARY_SIZE; all else about the field follows from it. */
    private int size;

    public FieldTower() {
        size = BINARY_SIZE;
    }

    public int use(int q) {
        if (q != BINARY_SIZE && q != TERNARY_SIZE) {
            return REFUSED;
        }
        size = q;
        return 0;
    }

    public int add(int a, int b) {
        if (!isElement(a) || !isElement(b)) {
            return REFUSED;
        }
        return sum(a, b);
    }

    public int multiply(int a, int b) {
        if (!isElement(a) || !isElement(b)) {
            return REFUSED;
        }
        return product(a, b);
    }

    public int invert(int a) {
        if (!isUnit(a)) {
            return REFUSED;
        }
        // a^(q-1) is 1 for every element other than 0, so a^(q-2) is its inverse.
        return raise(a, size - 2);
    }

    public int power(int a, int n) {
        if (!isElement(a) || n < 0 || n > GREATEST_EXPONENT) {
            return REFUSED;
        }
        return raise(a, n);
    }

    public int order(int a) {
        if (!isUnit(a)) {
            return REFUSED;
        }
        int reached = a;
        int n = 1;
        // The order divides q - 1, so the bound never stops a search too early.
        while (reached != 1 && n < size) {
            reached = product(reached, a);
            n++;
        }
        return n;
    }

    public int root(int a) {
        if (!isElement(a)) {
            return REFUSED;
        }
        for (int r = 0; r < size; r++) {
            if (product(r, r) == a) {
                return r;
            }
        }
        return REFUSED;
    }

    public int roots(int a, int n) {
        if (!isElement(a) || n < 1 || n > GREATEST_EXPONENT) {
            return REFUSED;
        }
        int count = 0;
        for (int x = 0; x < size; x++) {
            if (raise(x, n) == a) {
                count++;
            }
        }
        return count;
    }

    public int trace(int a, int s) {
        int summands = stepsUpFrom(s);
        if (!isElement(a) || summands == 0) {
            return REFUSED;
        }
        int total = 0;
        int summand = a;
        for (int i = 0; i < summands; i++) {
            total = sum(total, summand);
            summand = raise(summand, s);
        }
        return total;
    }

    public int home(int a) {
        if (!isElement(a)) {
            return REFUSED;
        }
        for (int s = 2; s < size; s++) {
            if (stepsUpFrom(s) > 0 && raise(a, s) == a) {
                return s;
            }
        }
        // a^q = a for every element, so the whole field is the last home left.
        return size;
    }

    public int logarithm(int g, int a) {
        if (!isUnit(g) || !isUnit(a)) {
            return REFUSED;
        }
        int reached = 1;
        // The powers of g come round again after q - 1 steps at the latest.
        for (int n = 0; n < size - 1; n++) {
            if (reached == a) {
                return n;
            }
            reached = product(reached, g);
        }
        return REFUSED;
    }

    private boolean isElement(int a) {
        return a >= 0 && a < size;
    }

    private boolean isUnit(int a) {
        return a > 0 && a < size;
    }

    private int base() {
        return size == TERNARY_SIZE ? 3 : 2;
    }

    private int degree() {
        return size == TERNARY_SIZE ? 4 : 6;
    }

    /** The number of times s is multiplied by itself to make q; 0 if that never makes q. */
    private int stepsUpFrom(int s) {
        if (s == size) {
            return 1;
        }
        if (size == TERNARY_SIZE) {
            return s == 3 ? 4 : s == 9 ? 2 : 0;
        }
        return s == 2 ? 6 : s == 4 ? 3 : s == 8 ? 2 : 0;
    }

    private int sum(int a, int b) {
        int p = base();
        int k = degree();
        int restOfA = a;
        int restOfB = b;
        int place = 1;
        int total = 0;
        for (int i = 0; i < k; i++) {
            total += (restOfA % p + restOfB % p) % p * place;
            restOfA /= p;
            restOfB /= p;
            place *= p;
        }
        return total;
    }

    private int product(int a, int b) {
        int p = base();
        int k = degree();
        int highestPlace = p == 3 ? 27 : 32;
        int shifted = a;
        int restOfB = b;
        int total = 0;
        for (int i = 0; i < k; i++) {
            for (int times = restOfB % p; times > 0; times--) {
                total = sum(total, shifted);
            }
            restOfB /= p;
            // Times t, the highest coefficient would stand at t^k; t + 1, written p + 1, takes its place.
            int carried = shifted / highestPlace;
            shifted = sum(shifted % highestPlace * p, carried * (p + 1));
        }
        return total;
    }

    /** Squares again and again, so that a great exponent costs no more than its bits. */
    private int raise(int a, int n) {
        int result = 1;
        int square = a;
        for (int bit = 0; bit < EXPONENT_BITS && n >> bit > 0; bit++) {
            if ((n >> bit & 1) == 1) {
                result = product(result, square);
            }
            square = product(square, square);
        }
        return result;
    }
}
