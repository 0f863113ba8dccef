/**
 * Polynomials over a small prime field and their factors.
 *
 * A polynomial is held as its code alone: the coefficients are the digits of
 * the code to the base of the prime. The private methods work on codes, none
 * of them touches a register, so a question can change nothing.
 */
public final class FactorField {
    private static final int REGISTERS = 3;
    private static final int TOP_DEGREE = 8;
    private static final int COEFFICIENTS = 9;
    private static final int POWERS = 10;
    private static final int COUNTED_DEGREE = 4;

    private final int modulus;
    private final int[] powers = new int[POWERS];
    private final int[] registers = new int[REGISTERS];

    public FactorField(int choice) {
        modulus = choice == 0 ? 2 : choice == 1 ? 3 : 5;
        powers[0] = 1;
        for (int i = 1; i < POWERS; i++) {
            powers[i] = powers[i - 1] * modulus;
        }
    }

    public int prime() {
        return modulus;
    }

    public int load(int a, int code) {
        if (!isRegister(a)) {
            return -1;
        }
        if (code < 0 || code >= powers[COEFFICIENTS]) {
            return -2;
        }
        int before = registers[a];
        registers[a] = code;
        return before;
    }

    public int code(int a) {
        return isRegister(a) ? registers[a] : -1;
    }

    public int degree(int a) {
        return isRegister(a) ? degreeOf(registers[a]) : -2;
    }

    public int add(int a, int b) {
        if (!isRegister(a) || !isRegister(b)) {
            return -1;
        }
        registers[a] = combine(registers[a], 1, registers[b]);
        return registers[a];
    }

    public int subtract(int a, int b) {
        if (!isRegister(a) || !isRegister(b)) {
            return -1;
        }
        registers[a] = combine(registers[a], modulus - 1, registers[b]);
        return registers[a];
    }

    public int multiply(int a, int b) {
        if (!isRegister(a) || !isRegister(b)) {
            return -1;
        }
        // The degree -1 of 0 keeps a product with 0 below the limit.
        if (degreeOf(registers[a]) + degreeOf(registers[b]) > TOP_DEGREE) {
            return -2;
        }
        registers[a] = productOf(registers[a], registers[b]);
        return registers[a];
    }

    public int divide(int q, int a, int b) {
        if (!isRegister(q) || !isRegister(a) || !isRegister(b)) {
            return -1;
        }
        if (q == a || q == b || a == b) {
            return -2;
        }
        if (registers[b] == 0) {
            return -3;
        }
        registers[q] = quotientOf(registers[a], registers[b]);
        registers[a] = remainderOf(registers[a], registers[b]);
        return registers[q];
    }

    public int divisor(int a, int b) {
        if (!isRegister(a) || !isRegister(b)) {
            return -1;
        }
        registers[a] = commonDivisorOf(registers[a], registers[b]);
        return registers[a];
    }

    public int derive(int a) {
        if (!isRegister(a)) {
            return -1;
        }
        registers[a] = derivativeOf(registers[a]);
        return registers[a];
    }

    public int valueAt(int a, int x) {
        if (!isRegister(a)) {
            return -1;
        }
        int point = x % modulus;
        if (point < 0) {
            point += modulus;
        }
        return valueOf(registers[a], point);
    }

    public int roots(int a) {
        if (!isRegister(a)) {
            return -1;
        }
        int count = 0;
        for (int point = 0; point < modulus; point++) {
            if (valueOf(registers[a], point) == 0) {
                count++;
            }
        }
        return count;
    }

    public int irreducible(int a) {
        if (!isRegister(a)) {
            return -1;
        }
        return isIrreducible(registers[a]) ? 1 : 0;
    }

    public int factors(int a) {
        if (!isRegister(a)) {
            return -1;
        }
        if (registers[a] == 0) {
            return -2;
        }
        return factorCountOf(registers[a]);
    }

    public int factor(int a, int i) {
        if (!isRegister(a)) {
            return -1;
        }
        if (registers[a] == 0) {
            return -2;
        }
        int found = factorOf(registers[a], i);
        return found == 0 ? -3 : found;
    }

    public int multiplicity(int a, int i) {
        if (!isRegister(a)) {
            return -1;
        }
        if (registers[a] == 0) {
            return -2;
        }
        int found = factorOf(registers[a], i);
        return found == 0 ? -3 : multiplicityOf(registers[a], found);
    }

    public int greatest(int a) {
        if (!isRegister(a)) {
            return -1;
        }
        if (registers[a] == 0) {
            return -2;
        }
        int count = factorCountOf(registers[a]);
        if (count == 0) {
            return 0;
        }
        // A monic polynomial of a greater degree has a greater code.
        int last = factorOf(registers[a], count - 1);
        return degreeOf(last);
    }

    public int squareFree(int a) {
        if (!isRegister(a)) {
            return -1;
        }
        if (registers[a] == 0) {
            return -2;
        }
        int radical = radicalOf(registers[a]);
        return degreeOf(radical) == degreeOf(registers[a]) ? 1 : 0;
    }

    public int radical(int a) {
        if (!isRegister(a)) {
            return -1;
        }
        if (registers[a] == 0) {
            return -2;
        }
        registers[a] = radicalOf(registers[a]);
        return registers[a];
    }

    public int irreducibles(int degree) {
        if (degree < 1 || degree > COUNTED_DEGREE) {
            return -1;
        }
        int count = 0;
        for (int monic = powers[degree]; monic < 2 * powers[degree]; monic++) {
            if (isIrreducible(monic)) {
                count++;
            }
        }
        return count;
    }

    public int nextIrreducible(int after) {
        for (int d = 1; d <= TOP_DEGREE; d++) {
            int first = powers[d];
            int last = 2 * powers[d] - 1;
            // after + 1 can't wrap around where after is below last.
            if (after >= first && after < last) {
                first = after + 1;
            }
            for (int monic = first; monic > after && monic <= last; monic++) {
                if (isIrreducible(monic)) {
                    return monic;
                }
            }
        }
        return -1;
    }

    private boolean isRegister(int a) {
        return a >= 0 && a < REGISTERS;
    }

    private int degreeOf(int x) {
        int degree = TOP_DEGREE;
        while (degree >= 0 && powers[degree] > x) {
            degree--;
        }
        return degree;
    }

    /** x + k * y, with a coefficient k of 0 .. modulus. */
    private int combine(int x, int k, int y) {
        int sum = 0;
        for (int i = 0; i < COEFFICIENTS; i++) {
            // The higher digits are multiples of the modulus and fall away.
            int coefficient = (x / powers[i] + k * (y / powers[i])) % modulus;
            sum += coefficient * powers[i];
        }
        return sum;
    }

    /** x * y, where the caller knows that the degree is at most 8. */
    private int productOf(int x, int y) {
        int product = 0;
        for (int i = 0; i < COEFFICIENTS; i++) {
            int coefficient = y / powers[i] % modulus;
            if (coefficient != 0) {
                product = combine(product, coefficient, x * powers[i]);
            }
        }
        return product;
    }

    /** The coefficient that times k is 1; 0 if k is 0. */
    private int inverseOf(int k) {
        for (int candidate = 1; candidate < modulus; candidate++) {
            if (candidate * k % modulus == 1) {
                return candidate;
            }
        }
        return 0;
    }

    private int monicOf(int x) {
        int degree = degreeOf(x);
        if (degree < 0) {
            return 0;
        }
        int inverse = inverseOf(x / powers[degree]);
        return combine(0, inverse, x);
    }

    /** The quotient of x by y; 0 if y is 0. */
    private int quotientOf(int x, int y) {
        int degree = degreeOf(y);
        if (degree < 0) {
            return 0;
        }
        int inverse = inverseOf(y / powers[degree]);
        int quotient = 0;
        int rest = x;
        for (int shift = degreeOf(x) - degree; shift >= 0; shift--) {
            int ratio = rest / powers[degree + shift] * inverse % modulus;
            quotient += ratio * powers[shift];
            rest = combine(rest, modulus - ratio, y * powers[shift]);
        }
        return quotient;
    }

    /** The remainder of x by y; x if y is 0. */
    private int remainderOf(int x, int y) {
        int degree = degreeOf(y);
        if (degree < 0) {
            return x;
        }
        int inverse = inverseOf(y / powers[degree]);
        int rest = x;
        for (int shift = degreeOf(x) - degree; shift >= 0; shift--) {
            int ratio = rest / powers[degree + shift] * inverse % modulus;
            rest = combine(rest, modulus - ratio, y * powers[shift]);
        }
        return rest;
    }

    private int commonDivisorOf(int x, int y) {
        int larger = x;
        int smaller = y;
        // The degree of smaller is at most 8 and falls with every turn.
        for (int turn = 0; turn <= COEFFICIENTS && smaller != 0; turn++) {
            int rest = remainderOf(larger, smaller);
            larger = smaller;
            smaller = rest;
        }
        return monicOf(larger);
    }

    private int derivativeOf(int x) {
        int derivative = 0;
        for (int i = 0; i < TOP_DEGREE; i++) {
            int coefficient = x / powers[i + 1] % modulus * (i + 1) % modulus;
            derivative += coefficient * powers[i];
        }
        return derivative;
    }

    private int valueOf(int x, int point) {
        int value = 0;
        for (int i = TOP_DEGREE; i >= 0; i--) {
            value = (value * point + x / powers[i]) % modulus;
        }
        return value;
    }

    private boolean isIrreducible(int x) {
        int degree = degreeOf(x);
        if (degree < 1) {
            return false;
        }
        int least = leastFactorOf(x);
        return degreeOf(least) == degree;
    }

    /** The factor of x with the least code; 0 if x has none. */
    private int leastFactorOf(int x) {
        int degree = degreeOf(x);
        if (degree < 1) {
            return 0;
        }
        // The first that divides is irreducible, as a factor of it would have
        // divided before; and if x is a product, one side has half its degree.
        for (int d = 1; d <= degree / 2; d++) {
            for (int monic = powers[d]; monic < 2 * powers[d]; monic++) {
                if (remainderOf(x, monic) == 0) {
                    return monic;
                }
            }
        }
        return monicOf(x);
    }

    /** How often the factor divides x, which is not 0. */
    private int multiplicityOf(int x, int factor) {
        int count = 0;
        int rest = x;
        while (count < TOP_DEGREE && remainderOf(rest, factor) == 0) {
            rest = quotientOf(rest, factor);
            count++;
        }
        return count;
    }

    /** What is left of x, which is not 0, when the factor is divided out. */
    private int without(int x, int factor) {
        int rest = x;
        for (int turn = 0; turn < TOP_DEGREE && remainderOf(rest, factor) == 0; turn++) {
            rest = quotientOf(rest, factor);
        }
        return rest;
    }

    private int factorCountOf(int x) {
        int count = 0;
        int rest = x;
        while (count < TOP_DEGREE && degreeOf(rest) > 0) {
            int least = leastFactorOf(rest);
            rest = without(rest, least);
            count++;
        }
        return count;
    }

    /** The factor of x with this number; 0 if there is none. */
    private int factorOf(int x, int number) {
        if (number < 0 || number >= TOP_DEGREE) {
            return 0;
        }
        int rest = x;
        for (int i = 0; i < number && degreeOf(rest) > 0; i++) {
            int least = leastFactorOf(rest);
            rest = without(rest, least);
        }
        return leastFactorOf(rest);
    }

    /** The product of the factors of x, which is not 0. */
    private int radicalOf(int x) {
        int radical = 1;
        int rest = x;
        for (int turn = 0; turn < TOP_DEGREE && degreeOf(rest) > 0; turn++) {
            int least = leastFactorOf(rest);
            radical = productOf(radical, least);
            rest = without(rest, least);
        }
        return radical;
    }
}
