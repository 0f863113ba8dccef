import java.util.TreeSet;

/** Promises 21 and 22: irreducibles, nextIrreducible. */
public final class IrreduciblesTest {
    /** A prime, then how many there are of degree 1, 2, .. 8, by Gauss's formula. */
    private static final int[][] COUNTS = {
        {2, 2, 1, 2, 3, 6, 9, 18, 30},
        {3, 3, 3, 8, 18, 48, 116, 312, 810},
        {5, 5, 10, 40, 150, 624, 2580, 11160, 48750}
    };
    private static final int[][] FIRST = {
        {2, 2, 3, 7, 11, 13, 19, 25, 31, 37, 41, 47, 55, 59, 61, 67},
        {3, 3, 4, 5, 10, 14, 17, 34, 35, 38, 41, 43, 46, 49, 53, 86},
        {5, 5, 6, 7, 8, 9, 27, 28, 31, 32, 38, 39, 43, 44, 46, 47, 131}
    };

    public static void main(String[] args) {
        for (int[] row : COUNTS) {
            irreducibles(row);
            Sieve sieve = new Sieve(row[0]);
            for (int d = 1; d <= 8; d++) {
                Check.due(row[0], "the test's own sieve, degree " + d, sieve.countOfDegree(d), row[d]);
            }
            edges(sieve);
        }
        for (int[] row : FIRST) {
            first(row);
        }
        chain(new Sieve(2), Check.power(2, 9));
        chain(new Sieve(3), Check.power(3, 9));
        chain(new Sieve(5), Check.power(5, 6));
        Check.finish();
    }

    private static void irreducibles(int[] row) {
        int p = row[0];
        FactorField field = Check.loaded(p, 3, 4, 5);
        for (int d = 1; d <= 4; d++) {
            Check.due(p, "irreducibles(" + d + ")", field.irreducibles(d), row[d]);
        }
        Check.registers("irreducibles", field, 3, 4, 5);
    }

    private static void first(int[] row) {
        FactorField field = Check.loaded(row[0], 3, 4, 5);
        int after = Integer.MIN_VALUE;
        for (int i = 1; i < row.length; i++) {
            int next = field.nextIrreducible(after);
            Check.due(row[0], "nextIrreducible(" + after + ")", next, row[i]);
            after = row[i];
        }
        Check.registers("nextIrreducible", field, 3, 4, 5);
    }

    private static void edges(Sieve sieve) {
        int p = sieve.prime;
        TreeSet<Integer> afters = new TreeSet<>();
        int[] anywhere = {
            Integer.MIN_VALUE, Integer.MIN_VALUE + 1, -1000, -1, 0, 1, Integer.MAX_VALUE - 1, Integer.MAX_VALUE
        };
        for (int after : anywhere) {
            afters.add(after);
        }
        for (int d = 0; d <= 10; d++) {
            for (int near = -2; near <= 2; near++) {
                afters.add(Check.power(p, d) + near);
                afters.add(2 * Check.power(p, d) + near);
            }
        }
        int last = sieve.irreducibles.last();
        for (int near = -2; near <= 2; near++) {
            afters.add(last + near);
        }
        Model model = new Model(sieve);
        FactorField field = Check.loaded(p, 3, 4, 5);
        for (int after : afters) {
            int due = model.nextIrreducible(after);
            Check.due(p, "nextIrreducible(" + after + ")", field.nextIrreducible(after), due);
        }
        Check.due(p, "after the last", field.nextIrreducible(last), -1);
        Check.due(p, "before the last", field.nextIrreducible(last - 1), last);
        Check.registers("nextIrreducible", field, 3, 4, 5);
    }

    /** All of them below the end, one after the other. */
    private static void chain(Sieve sieve, int end) {
        int after = -5;
        for (int due : sieve.irreducibles.headSet(end)) {
            FactorField field = Check.field(sieve.prime);
            int next = field.nextIrreducible(after);
            Check.due(sieve.prime, "nextIrreducible(" + after + ")", next, due);
            Check.due(sieve.prime, "load it", field.load(1, due), 0);
            Check.due(sieve.prime, "irreducible(1) of " + due, field.irreducible(1), 1);
            after = due;
        }
    }
}
