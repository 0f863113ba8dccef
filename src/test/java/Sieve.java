import java.util.TreeSet;

/**
 * The least factor of every monic polynomial of degree 1 to 8, found by
 * multiplying and not by dividing, so that a test shares no method with the
 * program.
 */
final class Sieve {
    final int prime;
    final TreeSet<Integer> irreducibles = new TreeSet<>();
    private final int[] least;

    Sieve(int prime) {
        this.prime = prime;
        least = new int[2 * Check.power(prime, 8)];
        for (int d = 1; d <= 8; d++) {
            int low = Check.power(prime, d);
            for (int code = low; code < 2 * low; code++) {
                if (least[code] == 0) {
                    least[code] = code;
                    irreducibles.add(code);
                    markMultiples(code, d);
                }
            }
        }
    }

    int leastFactor(int monic) {
        return least[monic];
    }

    int countOfDegree(int degree) {
        int low = Check.power(prime, degree);
        return irreducibles.subSet(low, 2 * low).size();
    }

    private void markMultiples(int factor, int degree) {
        int[] left = Poly.coefficients(prime, factor);
        for (int d = degree; d + degree <= 8; d++) {
            int low = Check.power(prime, d);
            for (int other = low; other < 2 * low; other++) {
                int[] right = Poly.coefficients(prime, other);
                int[] product = Poly.times(prime, left, right);
                int code = Poly.code(prime, product);
                if (least[code] == 0) {
                    least[code] = factor;
                }
            }
        }
    }
}
