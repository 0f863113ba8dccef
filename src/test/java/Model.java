import java.math.BigInteger;
import java.util.ArrayList;
import java.util.List;
import java.util.Map;
import java.util.TreeMap;

/** The document once more, written another way: what each call should answer. */
final class Model {
    private final int p;
    private final Sieve sieve;
    private final int[][] registers = {{}, {}, {}};

    Model(Sieve sieve) {
        this.sieve = sieve;
        p = sieve.prime;
    }

    int prime() {
        return p;
    }

    int load(int a, int code) {
        if (bad(a)) {
            return -1;
        }
        if (code < 0 || code > Check.power(p, 9) - 1) {
            return -2;
        }
        int before = code(a);
        registers[a] = Poly.coefficients(p, code);
        return before;
    }

    int code(int a) {
        return bad(a) ? -1 : Poly.code(p, registers[a]);
    }

    int degree(int a) {
        return bad(a) ? -2 : Poly.degree(registers[a]);
    }

    int add(int a, int b) {
        return bad(a) || bad(b) ? -1 : set(a, Poly.plusTimes(p, registers[a], 1, registers[b]));
    }

    int subtract(int a, int b) {
        return bad(a) || bad(b) ? -1 : set(a, Poly.plusTimes(p, registers[a], -1, registers[b]));
    }

    int multiply(int a, int b) {
        if (bad(a) || bad(b)) {
            return -1;
        }
        int[] product = Poly.times(p, registers[a], registers[b]);
        return Poly.degree(product) > 8 ? -2 : set(a, product);
    }

    int divide(int q, int a, int b) {
        if (bad(q) || bad(a) || bad(b)) {
            return -1;
        }
        if (q == a || q == b || a == b) {
            return -2;
        }
        if (registers[b].length == 0) {
            return -3;
        }
        int[][] both = Poly.divided(p, registers[a], registers[b]);
        set(a, both[1]);
        return set(q, both[0]);
    }

    int divisor(int a, int b) {
        if (bad(a) || bad(b)) {
            return -1;
        }
        if (registers[a].length == 0) {
            return set(a, Poly.monic(p, registers[b]));
        }
        if (registers[b].length == 0) {
            return set(a, Poly.monic(p, registers[a]));
        }
        Map<Integer, Integer> left = factorsOf(registers[a]);
        Map<Integer, Integer> right = factorsOf(registers[b]);
        int[] common = {1};
        for (int factor : left.keySet()) {
            int times = Math.min(left.get(factor), right.getOrDefault(factor, 0));
            for (int n = 0; n < times; n++) {
                common = Poly.times(p, common, Poly.coefficients(p, factor));
            }
        }
        return set(a, common);
    }

    int derive(int a) {
        return bad(a) ? -1 : set(a, Poly.derived(p, registers[a]));
    }

    int valueAt(int a, int x) {
        if (bad(a)) {
            return -1;
        }
        BigInteger value = BigInteger.ZERO;
        for (int i = 0; i < registers[a].length; i++) {
            BigInteger term = BigInteger.valueOf(x).pow(i);
            value = value.add(term.multiply(BigInteger.valueOf(registers[a][i])));
        }
        return value.mod(BigInteger.valueOf(p)).intValue();
    }

    int roots(int a) {
        if (bad(a)) {
            return -1;
        }
        int count = 0;
        for (int x = 0; x < p; x++) {
            count += valueAt(a, x) == 0 ? 1 : 0;
        }
        return count;
    }

    int irreducible(int a) {
        if (bad(a)) {
            return -1;
        }
        return sieve.irreducibles.contains(Poly.code(p, Poly.monic(p, registers[a]))) ? 1 : 0;
    }

    int factors(int a) {
        return refused(a) != 0 ? refused(a) : factorsOf(registers[a]).size();
    }

    int factor(int a, int i) {
        if (refused(a) != 0) {
            return refused(a);
        }
        List<Integer> codes = new ArrayList<>(factorsOf(registers[a]).keySet());
        return i < 0 || i >= codes.size() ? -3 : codes.get(i);
    }

    int multiplicity(int a, int i) {
        if (refused(a) != 0) {
            return refused(a);
        }
        List<Integer> counts = new ArrayList<>(factorsOf(registers[a]).values());
        return i < 0 || i >= counts.size() ? -3 : counts.get(i);
    }

    int greatest(int a) {
        if (refused(a) != 0) {
            return refused(a);
        }
        int greatest = 0;
        for (int factor : factorsOf(registers[a]).keySet()) {
            greatest = Math.max(greatest, Poly.degree(Poly.coefficients(p, factor)));
        }
        return greatest;
    }

    int squareFree(int a) {
        if (refused(a) != 0) {
            return refused(a);
        }
        for (int count : factorsOf(registers[a]).values()) {
            if (count > 1) {
                return 0;
            }
        }
        return 1;
    }

    int radical(int a) {
        if (refused(a) != 0) {
            return refused(a);
        }
        int[] product = {1};
        for (int factor : factorsOf(registers[a]).keySet()) {
            product = Poly.times(p, product, Poly.coefficients(p, factor));
        }
        return set(a, product);
    }

    int irreducibles(int degree) {
        return degree < 1 || degree > 4 ? -1 : sieve.countOfDegree(degree);
    }

    int nextIrreducible(int after) {
        Integer next = sieve.irreducibles.higher(after);
        return next == null ? -1 : next;
    }

    private boolean bad(int a) {
        return a != 0 && a != 1 && a != 2;
    }

    private int refused(int a) {
        return bad(a) ? -1 : registers[a].length == 0 ? -2 : 0;
    }

    private int set(int a, int[] value) {
        registers[a] = value;
        return code(a);
    }

    /** Multiplicities by factor, in rising order of codes. */
    private TreeMap<Integer, Integer> factorsOf(int[] x) {
        TreeMap<Integer, Integer> found = new TreeMap<>();
        int[] rest = Poly.monic(p, x);
        while (Poly.degree(rest) > 0) {
            int factor = sieve.leastFactor(Poly.code(p, rest));
            found.merge(factor, 1, Integer::sum);
            rest = Poly.divided(p, rest, Poly.coefficients(p, factor))[0];
        }
        return found;
    }
}
