import java.util.TreeSet;

/**
 * Long runs of mixed calls against the model. A run has the 512 calls that the
 * document allows, and no more.
 */
public final class RunsTest {
    private static final int CALLS = 512;
    private static final int METHODS = 21;
    private static final int WATCHED_RUNS = 150;
    private static final int MIXED_RUNS = 40;
    private static final int[] ODD_INTS = {
        Integer.MIN_VALUE, Integer.MIN_VALUE + 1, -1000, -9, -2, -1, 3, 4, 8, 9, 1000, Integer.MAX_VALUE
    };

    private static long seed = 20261115L;

    public static void main(String[] args) {
        for (int prime : Check.PRIMES) {
            Sieve sieve = new Sieve(prime);
            for (int run = 0; run < WATCHED_RUNS; run++) {
                watchedRun(sieve, run);
            }
            for (int run = 0; run < MIXED_RUNS; run++) {
                mixedRun(sieve, run);
            }
        }
        Check.finish();
    }

    /** Every register is looked at after every call; each look is a call too. */
    private static void watchedRun(Sieve sieve, int run) {
        FactorField field = Check.field(sieve.prime);
        Model model = new Model(sieve);
        for (int step = 0; step < CALLS / 4; step++) {
            String call = step(sieve.prime, field, model);
            String after = "prime " + sieve.prime + ", run " + run + ", step " + step + ", " + call;
            Check.registers(after, field, model.code(0), model.code(1), model.code(2));
        }
    }

    /** Nothing is looked at between the calls, so that any method can be the 512th. */
    private static void mixedRun(Sieve sieve, int run) {
        FactorField field = Check.field(sieve.prime);
        Model model = new Model(sieve);
        TreeSet<String> methods = new TreeSet<>();
        for (int step = 0; step < CALLS; step++) {
            String call = step(sieve.prime, field, model);
            methods.add(call.substring(0, call.indexOf('(')));
        }
        Check.due(sieve.prime, "methods called in mixed run " + run, methods.size(), METHODS);
    }

    private static String step(int p, FactorField f, Model m) {
        int kind = below(30);
        int a = register();
        int b = register();
        int n = number();
        switch (kind) {
            case 0: return same(p, "prime()", f.prime(), m.prime());
            case 1: return same(p, "code(" + a + ")", f.code(a), m.code(a));
            case 2: return same(p, "degree(" + a + ")", f.degree(a), m.degree(a));
            case 3: return same(p, "add(" + a + ", " + b + ")", f.add(a, b), m.add(a, b));
            case 4: return same(p, "subtract(" + a + ", " + b + ")", f.subtract(a, b), m.subtract(a, b));
            case 5: return same(p, "multiply(" + a + ", " + b + ")", f.multiply(a, b), m.multiply(a, b));
            case 6:
            case 7: return divide(p, f, m, a, b);
            case 8: return same(p, "divisor(" + a + ", " + b + ")", f.divisor(a, b), m.divisor(a, b));
            case 9: return same(p, "derive(" + a + ")", f.derive(a), m.derive(a));
            case 10: return same(p, "valueAt(" + a + ", " + n + ")", f.valueAt(a, n), m.valueAt(a, n));
            case 11: return same(p, "roots(" + a + ")", f.roots(a), m.roots(a));
            case 12: return same(p, "irreducible(" + a + ")", f.irreducible(a), m.irreducible(a));
            case 13: return same(p, "factors(" + a + ")", f.factors(a), m.factors(a));
            case 14: return same(p, "factor(" + a + ", " + n + ")", f.factor(a, n), m.factor(a, n));
            case 15: return same(p, "multiplicity(" + a + ", " + n + ")", f.multiplicity(a, n), m.multiplicity(a, n));
            case 16: return same(p, "greatest(" + a + ")", f.greatest(a), m.greatest(a));
            case 17: return same(p, "squareFree(" + a + ")", f.squareFree(a), m.squareFree(a));
            case 18: return same(p, "radical(" + a + ")", f.radical(a), m.radical(a));
            case 19: return same(p, "irreducibles(" + n + ")", f.irreducibles(n), m.irreducibles(n));
            case 20: return next(p, f, m);
            default: return load(p, f, m, a);
        }
    }

    private static String divide(int p, FactorField f, Model m, int a, int b) {
        // Mostly three different registers, as most others are refused.
        int q = below(5) == 0 ? register() : 3 - a - b;
        String call = "divide(" + q + ", " + a + ", " + b + ")";
        return same(p, call, f.divide(q, a, b), m.divide(q, a, b));
    }

    private static String next(int p, FactorField f, Model m) {
        int after = below(4) == 0 ? ODD_INTS[below(ODD_INTS.length)] : code(p);
        return same(p, "nextIrreducible(" + after + ")", f.nextIrreducible(after), m.nextIrreducible(after));
    }

    private static String load(int p, FactorField f, Model m, int a) {
        int code = code(p);
        return same(p, "load(" + a + ", " + code + ")", f.load(a, code), m.load(a, code));
    }

    private static String same(int p, String call, int got, int want) {
        Check.due(p, call, got, want);
        return call;
    }

    private static int register() {
        return below(25) == 0 ? ODD_INTS[below(ODD_INTS.length)] : below(3);
    }

    private static int number() {
        return below(6) == 0 ? ODD_INTS[below(ODD_INTS.length)] : below(6);
    }

    private static int code(int p) {
        int end = Check.power(p, 9);
        switch (below(12)) {
            case 0: return end - 1 - below(3) + below(6);
            case 1: return ODD_INTS[below(ODD_INTS.length)];
            case 2: return below(p);
            case 3:
            case 4: return below(end);
            case 5: return below(Check.power(p, 1 + below(5)));
            default: return productOfSmall(p);
        }
    }

    /** Such a code has many factors, and often the same one several times. */
    private static int productOfSmall(int p) {
        int[] product = {1 + below(p - 1)};
        int[] factor = {1};
        for (int n = 0; n < 8; n++) {
            if (n == 0 || below(2) == 0) {
                factor = Poly.coefficients(p, 1 + below(Check.power(p, 1 + below(4)) - 1));
            }
            int[] longer = Poly.times(p, product, factor);
            product = Poly.degree(longer) <= 8 ? longer : product;
        }
        return Poly.code(p, product);
    }

    /** A number 0 .. end - 1, the same ones in every run of the test. */
    private static int below(int end) {
        seed = seed * 6364136223846793005L + 1442695040888963407L;
        return (int) ((seed >>> 33) % end);
    }
}
