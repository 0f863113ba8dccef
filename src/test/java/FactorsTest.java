/**
 * Promises 13 to 20: roots, irreducible, factors, factor, multiplicity,
 * greatest, squareFree, radical.
 */
public final class FactorsTest {
    /** A prime, a leading coefficient, then each factor's code and multiplicity. */
    private static final int[][] PRODUCTS = {
        {2, 1}, {3, 1}, {3, 2}, {5, 1}, {5, 2}, {5, 3}, {5, 4},
        {2, 1, 2, 1}, {2, 1, 3, 1}, {2, 1, 7, 1}, {2, 1, 2, 8}, {2, 1, 3, 8}, {2, 1, 2, 4, 3, 4},
        {2, 1, 2, 1, 3, 1, 7, 3}, {2, 1, 2, 2, 3, 2, 7, 2}, {2, 1, 7, 4}, {2, 1, 7, 1, 11, 1, 13, 1},
        {2, 1, 11, 1, 13, 1}, {2, 1, 19, 1, 31, 1}, {2, 1, 31, 2}, {2, 1, 3, 1, 131, 1}, {2, 1, 283, 1},
        {3, 2, 3, 1}, {3, 1, 4, 1}, {3, 2, 5, 1}, {3, 1, 3, 8}, {3, 2, 3, 2, 4, 3, 5, 3}, {3, 1, 3, 3, 4, 3},
        {3, 1, 3, 1, 4, 1, 5, 1, 10, 1, 14, 1}, {3, 2, 10, 1, 14, 1, 17, 2}, {3, 2, 14, 4}, {3, 1, 14, 3},
        {3, 2, 34, 2}, {3, 1, 86, 2}, {3, 2, 86, 1}, {3, 1, 5, 1, 34, 1, 86, 1}, {3, 2, 6572, 1},
        {5, 4, 5, 1}, {5, 3, 9, 1}, {5, 3, 9, 8}, {5, 1, 5, 5}, {5, 2, 6, 5, 9, 3}, {5, 4, 7, 6, 28, 1},
        {5, 3, 5, 1, 6, 1, 7, 1, 8, 1, 9, 1}, {5, 4, 5, 1, 6, 1, 7, 1, 8, 1, 9, 1, 27, 1},
        {5, 3, 27, 2, 28, 2}, {5, 2, 32, 4}, {5, 1, 31, 1, 142, 2}, {5, 4, 142, 1}, {5, 4, 627, 1, 628, 1},
        {5, 2, 627, 2}
    };

    public static void main(String[] args) {
        for (int[] product : PRODUCTS) {
            product(product);
        }
        againstModel(2, 1);
        againstModel(3, 7);
        againstModel(5, 761);
        Check.finish();
    }

    private static void product(int[] row) {
        int p = row[0];
        int code = codeOf(row);
        int count = row.length / 2 - 1;
        String of = " of " + code;
        FactorField field = Check.loaded(p, 1, 0, code);
        Check.due(p, "factors(2)" + of, field.factors(2), count);
        for (int i = 0; i < count; i++) {
            Check.due(p, "factor(2, " + i + ")" + of, field.factor(2, i), row[2 * i + 2]);
            Check.due(p, "multiplicity(2, " + i + ")" + of, field.multiplicity(2, i), row[2 * i + 3]);
        }
        int[] noNumbers = {count, count + 1, 7, 8, 9, 100, -1, -2, Integer.MAX_VALUE, Integer.MIN_VALUE};
        for (int i : noNumbers) {
            Check.due(p, "factor(2, " + i + ")" + of, field.factor(2, i), -3);
            Check.due(p, "multiplicity(2, " + i + ")" + of, field.multiplicity(2, i), -3);
        }
        Check.due(p, "roots(2)" + of, field.roots(2), rootsOf(row));
        Check.due(p, "irreducible(2)" + of, field.irreducible(2), count == 1 && row[3] == 1 ? 1 : 0);
        Check.due(p, "greatest(2)" + of, field.greatest(2), count == 0 ? 0 : degree(p, row[2 * count]));
        Check.due(p, "squareFree(2)" + of, field.squareFree(2), isSquareFree(row) ? 1 : 0);
        Check.registers("questions" + of, field, 1, 0, code);
        Check.due(p, "radical(2)" + of, field.radical(2), radicalOf(row));
        Check.registers("radical(2)" + of, field, 1, 0, radicalOf(row));
        Check.due(p, "squareFree(2) of a radical", field.squareFree(2), 1);
        Check.due(p, "factors(2) of a radical", field.factors(2), count);
    }

    private static int codeOf(int[] row) {
        int[] product = {row[1]};
        for (int i = 2; i < row.length; i += 2) {
            for (int n = 0; n < row[i + 1]; n++) {
                product = Poly.times(row[0], product, Poly.coefficients(row[0], row[i]));
            }
        }
        return Poly.code(row[0], product);
    }

    private static int radicalOf(int[] row) {
        int[] once = row.clone();
        once[1] = 1;
        for (int i = 3; i < once.length; i += 2) {
            once[i] = 1;
        }
        return codeOf(once);
    }

    private static int rootsOf(int[] row) {
        int count = 0;
        for (int i = 2; i < row.length; i += 2) {
            count += degree(row[0], row[i]) == 1 ? 1 : 0;
        }
        return count;
    }

    private static boolean isSquareFree(int[] row) {
        boolean free = true;
        for (int i = 3; i < row.length; i += 2) {
            free = free && row[i] == 1;
        }
        return free;
    }

    private static int degree(int p, int code) {
        return Poly.degree(Poly.coefficients(p, code));
    }

    private static void againstModel(int p, int step) {
        Sieve sieve = new Sieve(p);
        for (int code = 0; code < Check.power(p, 9); code += step) {
            FactorField field = Check.field(p);
            Model model = new Model(sieve);
            field.load(0, code);
            model.load(0, code);
            String of = " of " + code;
            Check.due(p, "roots" + of, field.roots(0), model.roots(0));
            Check.due(p, "irreducible" + of, field.irreducible(0), model.irreducible(0));
            Check.due(p, "factors" + of, field.factors(0), model.factors(0));
            for (int i = 0; i <= model.factors(0); i++) {
                Check.due(p, "factor " + i + of, field.factor(0, i), model.factor(0, i));
                Check.due(p, "multiplicity " + i + of, field.multiplicity(0, i), model.multiplicity(0, i));
            }
            Check.due(p, "greatest" + of, field.greatest(0), model.greatest(0));
            Check.due(p, "squareFree" + of, field.squareFree(0), model.squareFree(0));
            Check.due(p, "radical" + of, field.radical(0), model.radical(0));
            Check.due(p, "code after radical" + of, field.code(0), model.code(0));
        }
    }
}
