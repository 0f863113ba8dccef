/** What the tests share: counting wrong answers, making objects, naming codes. */
final class Check {
    static final int[] PRIMES = {2, 3, 5};

    private static int made = 0;
    private static int wrong = 0;

    private Check() {
    }

    static void due(String call, long got, long want) {
        made++;
        if (got != want) {
            wrong++;
            System.out.println(call + " answered " + got + ", due is " + want);
        }
    }

    static void due(int prime, String call, long got, long want) {
        due("prime " + prime + ": " + call, got, want);
    }

    /** Looks at all three registers. */
    static void registers(String after, FactorField field, int r0, int r1, int r2) {
        due(after + ", then code(0)", field.code(0), r0);
        due(after + ", then code(1)", field.code(1), r1);
        due(after + ", then code(2)", field.code(2), r2);
    }

    static void finish() {
        if (made == 0) {
            wrong++;
            System.out.println("nothing was checked");
        }
        System.out.println(made + " answers looked at, " + wrong + " not as due");
        if (wrong != 0) {
            System.exit(1);
        }
    }

    static FactorField field(int prime) {
        return new FactorField(prime == 2 ? 0 : prime == 3 ? 1 : 2);
    }

    static FactorField loaded(int prime, int r0, int r1, int r2) {
        FactorField field = field(prime);
        due(prime, "load(0, " + r0 + ")", field.load(0, r0), 0);
        due(prime, "load(1, " + r1 + ")", field.load(1, r1), 0);
        due(prime, "load(2, " + r2 + ")", field.load(2, r2), 0);
        return field;
    }

    static int power(int prime, int exponent) {
        int power = 1;
        for (int i = 0; i < exponent; i++) {
            power *= prime;
        }
        return power;
    }

    /** The code of the polynomial whose coefficients stand from c0 upwards. */
    static int poly(int prime, int... coefficients) {
        int code = 0;
        for (int i = coefficients.length - 1; i >= 0; i--) {
            code = code * prime + coefficients[i];
        }
        return code;
    }
}
