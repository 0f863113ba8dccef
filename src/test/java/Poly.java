/** Plain polynomials as arrays of coefficients, c0 first, without leading zeros. */
final class Poly {
    private Poly() {
    }

    static int[] coefficients(int prime, int code) {
        int length = 0;
        for (int rest = code; rest > 0; rest /= prime) {
            length++;
        }
        int[] result = new int[length];
        int rest = code;
        for (int i = 0; i < length; i++) {
            result[i] = rest % prime;
            rest /= prime;
        }
        return result;
    }

    static int code(int prime, int[] x) {
        int code = 0;
        for (int i = x.length - 1; i >= 0; i--) {
            code = code * prime + x[i];
        }
        return code;
    }

    static int degree(int[] x) {
        return x.length - 1;
    }

    /** x + k * y, for any int k. */
    static int[] plusTimes(int prime, int[] x, int k, int[] y) {
        int[] sum = new int[Math.max(x.length, y.length)];
        for (int i = 0; i < sum.length; i++) {
            int left = i < x.length ? x[i] : 0;
            int right = i < y.length ? y[i] : 0;
            sum[i] = Math.floorMod(left + k * right, prime);
        }
        return trimmed(sum);
    }

    static int[] times(int prime, int[] x, int[] y) {
        if (x.length == 0 || y.length == 0) {
            return new int[0];
        }
        int[] product = new int[x.length + y.length - 1];
        for (int i = 0; i < x.length; i++) {
            for (int j = 0; j < y.length; j++) {
                product[i + j] = (product[i + j] + x[i] * y[j]) % prime;
            }
        }
        return trimmed(product);
    }

    /** The code of the product of the polynomials with these codes. */
    static int product(int prime, int... codes) {
        int[] product = {1};
        for (int code : codes) {
            product = times(prime, product, coefficients(prime, code));
        }
        return code(prime, product);
    }

    /** {quotient, remainder} of x by y, which is not 0. */
    static int[][] divided(int prime, int[] x, int[] y) {
        int[] quotient = new int[Math.max(x.length - y.length + 1, 0)];
        int[] rest = x.clone();
        for (int shift = quotient.length - 1; shift >= 0; shift--) {
            while (rest[shift + y.length - 1] != 0) {
                quotient[shift] = (quotient[shift] + 1) % prime;
                for (int i = 0; i < y.length; i++) {
                    rest[shift + i] = Math.floorMod(rest[shift + i] - y[i], prime);
                }
            }
        }
        return new int[][] {trimmed(quotient), trimmed(rest)};
    }

    static int[] derived(int prime, int[] x) {
        int[] result = new int[Math.max(x.length - 1, 0)];
        for (int i = 0; i < result.length; i++) {
            result[i] = (i + 1) * x[i + 1] % prime;
        }
        return trimmed(result);
    }

    /** x made monic; 0 stays 0. */
    static int[] monic(int prime, int[] x) {
        int[] result = x;
        for (int k = 1; k < prime; k++) {
            if (x.length > 0 && x[x.length - 1] * k % prime == 1) {
                result = plusTimes(prime, new int[0], k, x);
            }
        }
        return result;
    }

    private static int[] trimmed(int[] x) {
        int length = x.length;
        while (length > 0 && x[length - 1] == 0) {
            length--;
        }
        return java.util.Arrays.copyOf(x, length);
    }
}
