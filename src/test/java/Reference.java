/** The document's terms word by word and without any short cut, to compare the program with. */
final class Reference {
    final int q;
    final int p;
    final int k;
    private final int[][] products;

    Reference(int q) {
        this.q = q;
        this.p = q == 64 ? 2 : 3;
        this.k = q == 64 ? 6 : 4;
        this.products = new int[q][q];
        for (int a = 0; a < q; a++) {
            for (int b = 0; b < q; b++) {
                products[a][b] = reducedProduct(coefficients(a), coefficients(b));
            }
        }
    }

    int sum(int a, int b) {
        int[] left = coefficients(a);
        int[] right = coefficients(b);
        int[] total = new int[k];
        for (int i = 0; i < k; i++) {
            total[i] = (left[i] + right[i]) % p;
        }
        return number(total);
    }

    int product(int a, int b) {
        return products[a][b];
    }

    int inverse(int a) {
        for (int b = 0; b < q; b++) {
            if (product(a, b) == 1) {
                return b;
            }
        }
        return -1;
    }

    int power(int a, int n) {
        int result = 1;
        for (int i = 0; i < n; i++) {
            result = product(result, a);
        }
        return result;
    }

    int order(int a) {
        if (a == 0) {
            return -1;
        }
        int n = 1;
        while (power(a, n) != 1) {
            n++;
        }
        return n;
    }

    int root(int a) {
        for (int r = 0; r < q; r++) {
            if (product(r, r) == a) {
                return r;
            }
        }
        return -1;
    }

    /** The number of roots for every a at once. */
    int[] rootCounts(int n) {
        int[] counts = new int[q];
        for (int x = 0; x < q; x++) {
            counts[power(x, n)]++;
        }
        return counts;
    }

    /** How many factors s make q, or 0 if no number of them does or s is no power of p. */
    int factors(int s) {
        boolean powerOfP = false;
        for (long power = p; power <= q; power *= p) {
            powerOfP |= power == s;
        }
        if (!powerOfP) {
            return 0;
        }
        int count = 0;
        long made = 1;
        while (made < q) {
            made *= s;
            count++;
        }
        return made == q ? count : 0;
    }

    int trace(int a, int s) {
        int count = factors(s);
        if (count == 0) {
            return -1;
        }
        int total = 0;
        int exponent = 1;
        for (int i = 0; i < count; i++) {
            total = sum(total, power(a, exponent));
            exponent *= s;
        }
        return total;
    }

    int home(int a) {
        for (int s = 2; s <= q; s++) {
            if (factors(s) > 0 && power(a, s) == a) {
                return s;
            }
        }
        return -1;
    }

    int logarithm(int g, int a) {
        if (g == 0 || a == 0) {
            return -1;
        }
        for (int n = 0; n < q; n++) {
            if (power(g, n) == a) {
                return n;
            }
        }
        return -1;
    }

    private int[] coefficients(int a) {
        int[] row = new int[k];
        for (int i = 0; i < k; i++) {
            row[i] = a % p;
            a /= p;
        }
        return row;
    }

    private int number(int[] row) {
        int a = 0;
        for (int i = k - 1; i >= 0; i--) {
            a = a * p + row[i];
        }
        return a;
    }

    private int reducedProduct(int[] left, int[] right) {
        int[] whole = new int[2 * k];
        for (int i = 0; i < k; i++) {
            for (int j = 0; j < k; j++) {
                whole[i + j] += left[i] * right[j];
            }
        }
        for (int n = 2 * k - 1; n >= k; n--) {
            whole[n - k] += whole[n];
            whole[n - k + 1] += whole[n];
            whole[n] = 0;
        }
        int[] row = new int[k];
        for (int i = 0; i < k; i++) {
            row[i] = whole[i] % p;
        }
        return number(row);
    }
}
