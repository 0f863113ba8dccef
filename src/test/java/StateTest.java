/** Promises 1 to 5: a new object, prime, load, code, degree. */
public final class StateTest {
    public static void main(String[] args) {
        newObject();
        for (int p : Check.PRIMES) {
            prime(p);
            load(p);
            code(p);
            degree(p);
            separateObjects(p);
        }
        Check.finish();
    }

    private static void newObject() {
        int[][] choices = {{0, 2}, {1, 3}, {2, 5}, {3, 5}};
        for (int[] choice : choices) {
            FactorField field = new FactorField(choice[0]);
            Check.due("prime() after choice " + choice[0], field.prime(), choice[1]);
            Check.registers("choice " + choice[0], field, 0, 0, 0);
            Check.due("degree(0) of a new object", field.degree(0), -1);
            Check.due("degree(2) of a new object", field.degree(2), -1);
        }
    }

    private static void prime(int p) {
        FactorField field = Check.loaded(p, 5, 6, 7);
        Check.due(p, "prime()", field.prime(), p);
        Check.registers("prime()", field, 5, 6, 7);
    }

    private static void load(int p) {
        int last = Check.power(p, 9) - 1;
        for (int a = 0; a < 3; a++) {
            FactorField field = Check.field(p);
            Check.due(p, "load the greatest code", field.load(a, last), 0);
            Check.due(p, "code of it", field.code(a), last);
            Check.due(p, "load 0 after it", field.load(a, 0), last);
            Check.due(p, "load 1 after 0", field.load(a, 1), 0);
            Check.due(p, "load 1 again", field.load(a, 1), 1);
            Check.due(p, "load p after 1", field.load(a, p), 1);
            int due = p;
            Check.registers("load(" + a + ", ..)", field, a == 0 ? due : 0, a == 1 ? due : 0, a == 2 ? due : 0);
        }
    }

    private static void code(int p) {
        FactorField field = Check.loaded(p, 0, 100, Check.power(p, 9) - 1);
        Check.registers("load", field, 0, 100, Check.power(p, 9) - 1);
    }

    private static void degree(int p) {
        for (int d = 0; d <= 8; d++) {
            int low = Check.power(p, d);
            FactorField field = Check.loaded(p, low, low * p - 1, low - 1);
            Check.due(p, "degree of x^" + d, field.degree(0), d);
            Check.due(p, "degree of the last of degree " + d, field.degree(1), d);
            Check.due(p, "degree of the last before x^" + d, field.degree(2), d - 1);
            Check.registers("degree", field, low, low * p - 1, low - 1);
        }
    }

    private static void separateObjects(int p) {
        FactorField one = Check.loaded(p, 1, 2, 3);
        FactorField other = new FactorField(p == 2 ? 1 : 0);
        other.load(0, 7);
        Check.due(p, "prime() beside another object", one.prime(), p);
        Check.registers("load on another object", one, 1, 2, 3);
    }
}
