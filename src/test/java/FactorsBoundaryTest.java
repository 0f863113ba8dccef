/** The boundary cases of promises 13 to 20, a method for each sentence. */
public final class FactorsBoundaryTest {
    /** A prime, then the factors of a polynomial of degree 8 that has as many as can be. */
    private static final int[][] MANY = {{2, 2, 3, 7, 19}, {3, 3, 4, 5, 10, 34}, {5, 5, 6, 7, 8, 9, 131}};
    /** A prime, then an irreducible polynomial of degree 4 and one of degree 8. */
    private static final int[][] LONG = {{2, 31, 505}, {3, 158, 13118}, {5, 1249, 781249}};

    public static void main(String[] args) {
        for (int i = 0; i < Check.PRIMES.length; i++) {
            int p = Check.PRIMES[i];
            rootsRegister(p);
            irreducibleDegrees(p, LONG[i]);
            irreducibleRegister(p);
            factorsRegister(p);
            factorsOfZero(p, MANY[i]);
            factorRegister(p);
            factorOfZero(p);
            factorNumber(p, MANY[i], LONG[i]);
            multiplicityRegister(p);
            multiplicityOfZero(p);
            multiplicityNumber(p, MANY[i], LONG[i]);
            greatestOfNone(p, LONG[i]);
            greatestRegister(p);
            greatestOfZero(p);
            squareFreeRegister(p);
            squareFreeOfZero(p, MANY[i], LONG[i]);
            radicalOfNone(p, LONG[i]);
            radicalRegister(p);
            radicalOfZero(p);
        }
        Check.finish();
    }

    private static void rootsRegister(int p) {
        Edge edge = new Edge(p, "promise 13: -1 if a is not good", p, p, p);
        edge.refusesRegister(-1, "roots");
        edge.with(0, 0, 0).refusesRegister(-1, "roots");
        for (int a = 0; a < Edge.REGISTERS; a++) {
            edge.only(a, 0, 1).keeps(p, "roots", a);
            edge.only(a, 1, 0).keeps(0, "roots", a);
            edge.only(a, p - 1, 0).keeps(0, "roots", a);
            // x has the root 0, x + 1 the root P - 1, and x^P - x all of them.
            edge.only(a, p, 1).keeps(1, "roots", a);
            edge.only(a, p + 1, 1).keeps(1, "roots", a);
            edge.only(a, Check.power(p, p) + (p - 1) * p, 1).keeps(p, "roots", a);
        }
    }

    private static void irreducibleDegrees(int p, int[] longer) {
        Edge edge = new Edge(p, "promise 14: also for degrees less than 1", 0, 0, 0);
        for (int a = 0; a < Edge.REGISTERS; a++) {
            for (int code = 0; code < p; code++) {
                edge.only(a, code, p).keeps(0, "irreducible", a);
            }
            for (int code = p; code < p * p; code++) {
                edge.only(a, code, 1).keeps(1, "irreducible", a);
            }
            for (int k = 1; k < p; k++) {
                edge.only(a, k * p * p, p).keeps(0, "irreducible", a);
                edge.only(a, Poly.product(p, k, longer[1]), 1).keeps(1, "irreducible", a);
                edge.only(a, Poly.product(p, k, longer[2]), 1).keeps(1, "irreducible", a);
                edge.only(a, Poly.product(p, k, longer[1], longer[1]), p).keeps(0, "irreducible", a);
            }
        }
    }

    private static void irreducibleRegister(int p) {
        Edge edge = new Edge(p, "promise 14: -1 if a is not good", p, p, p);
        edge.refusesRegister(-1, "irreducible");
        edge.with(0, 0, 0).refusesRegister(-1, "irreducible");
        for (int a = 0; a < Edge.REGISTERS; a++) {
            edge.only(a, p, 1).keeps(1, "irreducible", a);
            edge.only(a, 1, p).keeps(0, "irreducible", a);
        }
    }

    private static void factorsRegister(int p) {
        Edge edge = new Edge(p, "promise 15: -1 if a is not good", p, p, p);
        edge.refusesRegister(-1, "factors");
        for (int a = 0; a < Edge.REGISTERS; a++) {
            edge.only(a, p, 1).keeps(1, "factors", a);
            edge.only(a, 1, p).keeps(0, "factors", a);
        }
    }

    private static void factorsOfZero(int p, int[] many) {
        Edge edge = new Edge(p, "promise 15: -2 if it is 0", 0, 0, 0);
        for (int a = 0; a < Edge.REGISTERS; a++) {
            edge.keeps(-2, "factors", a);
            edge.only(a, 0, p).keeps(-2, "factors", a);
            for (int k = 1; k < p; k++) {
                edge.only(a, k, 0).keeps(0, "factors", a);
                edge.only(a, k * p, 0).keeps(1, "factors", a);
                edge.only(a, k * Check.power(p, 8), 0).keeps(1, "factors", a);
            }
            edge.only(a, product(many), 0).keeps(many.length - 1, "factors", a);
        }
    }

    private static void factorRegister(int p) {
        Edge edge = new Edge(p, "promise 16: -1 if a is not good", p, p, p);
        edge.refusesRegister(-1, "factor", 0);
        for (int a = 0; a < Edge.REGISTERS; a++) {
            edge.only(a, p + 1, p).keeps(p + 1, "factor", a, 0);
        }
    }

    private static void factorOfZero(int p) {
        Edge edge = new Edge(p, "promise 16: -2 if it is 0", 0, 0, 0);
        for (int a = 0; a < Edge.REGISTERS; a++) {
            edge.keeps(-2, "factor", a, 0);
            edge.only(a, 0, p).keeps(-2, "factor", a, 0);
            for (int k = 1; k < p; k++) {
                edge.only(a, k, p).keeps(-3, "factor", a, 0);
                edge.only(a, k * p, 0).keeps(p, "factor", a, 0);
            }
        }
    }

    private static void factorNumber(int p, int[] many, int[] longer) {
        Edge edge = new Edge(p, "promise 16: -3 if there is no such factor", 0, 0, 0);
        for (int a = 0; a < Edge.REGISTERS; a++) {
            noSuchFactor(edge.only(a, 1, p), "factor", a, 0);
            noSuchFactor(edge.only(a, p - 1, p), "factor", a, 0);
            noSuchFactor(edge.only(a, p, 0), "factor", a, 1);
            noSuchFactor(edge.only(a, Check.power(p, 8), 0), "factor", a, 1);
            noSuchFactor(edge.only(a, Poly.product(p, p - 1, longer[2]), 0), "factor", a, 1);
            noSuchFactor(edge.only(a, product(many), p), "factor", a, many.length - 1);
            edge.only(a, Check.power(p, 8), 0).keeps(p, "factor", a, 0);
            edge.only(a, longer[2], 0).keeps(longer[2], "factor", a, 0);
            for (int i = 0; i < many.length - 1; i++) {
                edge.only(a, product(many), 0).keeps(many[i + 1], "factor", a, i);
            }
        }
    }

    private static void multiplicityRegister(int p) {
        Edge edge = new Edge(p, "promise 17: -1 if a is not good", p, p, p);
        edge.refusesRegister(-1, "multiplicity", 0);
        for (int a = 0; a < Edge.REGISTERS; a++) {
            edge.only(a, p * p, p).keeps(2, "multiplicity", a, 0);
        }
    }

    private static void multiplicityOfZero(int p) {
        Edge edge = new Edge(p, "promise 17: -2 if it is 0", 0, 0, 0);
        for (int a = 0; a < Edge.REGISTERS; a++) {
            edge.keeps(-2, "multiplicity", a, 0);
            edge.only(a, 0, p).keeps(-2, "multiplicity", a, 0);
            for (int k = 1; k < p; k++) {
                edge.only(a, k, p).keeps(-3, "multiplicity", a, 0);
                edge.only(a, k * p, 0).keeps(1, "multiplicity", a, 0);
            }
        }
    }

    private static void multiplicityNumber(int p, int[] many, int[] longer) {
        Edge edge = new Edge(p, "promise 17: -3 if there is no such factor", 0, 0, 0);
        for (int a = 0; a < Edge.REGISTERS; a++) {
            noSuchFactor(edge.only(a, 1, p), "multiplicity", a, 0);
            noSuchFactor(edge.only(a, p - 1, p), "multiplicity", a, 0);
            noSuchFactor(edge.only(a, p, 0), "multiplicity", a, 1);
            noSuchFactor(edge.only(a, Check.power(p, 8), 0), "multiplicity", a, 1);
            noSuchFactor(edge.only(a, product(many), p), "multiplicity", a, many.length - 1);
            edge.only(a, Check.power(p, 8), 0).keeps(8, "multiplicity", a, 0);
            edge.only(a, longer[2], 0).keeps(1, "multiplicity", a, 0);
            edge.only(a, Poly.product(p, longer[1], longer[1]), 0).keeps(2, "multiplicity", a, 0);
            for (int i = 0; i < many.length - 1; i++) {
                edge.only(a, product(many), 0).keeps(1, "multiplicity", a, i);
            }
            // The last factor of x^7 (x + 1) is there once, that of x (x + 1)^7 often.
            edge.only(a, Check.power(p, 8) + Check.power(p, 7), 0).keeps(7, "multiplicity", a, 0);
            edge.only(a, Check.power(p, 8) + Check.power(p, 7), 0).keeps(1, "multiplicity", a, 1);
            int y = p + 1;
            edge.only(a, Poly.product(p, p, y, y, y, y, y, y, y), 0).keeps(7, "multiplicity", a, 1);
        }
    }

    /** No number below 0 and none from count on is that of a factor. */
    private static void noSuchFactor(Edge edge, String method, int a, int count) {
        int[] numbers = {
            -1, count, Integer.MIN_VALUE, Integer.MAX_VALUE, -2, count + 1, 7, 8, 9, 256, 65536, Integer.MIN_VALUE + 1
        };
        for (int i : numbers) {
            edge.keeps(-3, method, a, i);
        }
    }

    private static void greatestOfNone(int p, int[] longer) {
        Edge edge = new Edge(p, "promise 18: 0 if there is none", 0, 0, 0);
        for (int a = 0; a < Edge.REGISTERS; a++) {
            for (int k = 1; k < p; k++) {
                edge.only(a, k, p).keeps(0, "greatest", a);
                edge.only(a, k * p, 1).keeps(1, "greatest", a);
                edge.only(a, k * Check.power(p, 8), 1).keeps(1, "greatest", a);
                edge.only(a, Poly.product(p, k, longer[2]), 1).keeps(8, "greatest", a);
                edge.only(a, Poly.product(p, k, longer[1], longer[1]), 1).keeps(4, "greatest", a);
            }
        }
    }

    private static void greatestRegister(int p) {
        Edge edge = new Edge(p, "promise 18: -1 if a is not good", p, p, p);
        edge.refusesRegister(-1, "greatest");
        for (int a = 0; a < Edge.REGISTERS; a++) {
            edge.only(a, p, 1).keeps(1, "greatest", a);
            edge.only(a, 1, p).keeps(0, "greatest", a);
        }
    }

    private static void greatestOfZero(int p) {
        Edge edge = new Edge(p, "promise 18: -2 if it is 0", 0, 0, 0);
        for (int a = 0; a < Edge.REGISTERS; a++) {
            edge.keeps(-2, "greatest", a);
            edge.only(a, 0, p).keeps(-2, "greatest", a);
            edge.only(a, 1, 0).keeps(0, "greatest", a);
            edge.only(a, p - 1, 0).keeps(0, "greatest", a);
        }
    }

    private static void squareFreeRegister(int p) {
        Edge edge = new Edge(p, "promise 19: -1 if a is not good", p, p, p);
        edge.refusesRegister(-1, "squareFree");
        for (int a = 0; a < Edge.REGISTERS; a++) {
            edge.only(a, p, p * p).keeps(1, "squareFree", a);
            edge.only(a, p * p, p).keeps(0, "squareFree", a);
        }
    }

    private static void squareFreeOfZero(int p, int[] many, int[] longer) {
        Edge edge = new Edge(p, "promise 19: -2 if it is 0", 0, 0, 0);
        for (int a = 0; a < Edge.REGISTERS; a++) {
            edge.keeps(-2, "squareFree", a);
            edge.only(a, 0, p).keeps(-2, "squareFree", a);
            for (int k = 1; k < p; k++) {
                edge.only(a, k, 0).keeps(1, "squareFree", a);
                edge.only(a, k * p, 0).keeps(1, "squareFree", a);
                edge.only(a, k * p * p, 0).keeps(0, "squareFree", a);
                edge.only(a, k * Check.power(p, p), 0).keeps(0, "squareFree", a);
            }
            edge.only(a, product(many), 0).keeps(1, "squareFree", a);
            edge.only(a, longer[2], 0).keeps(1, "squareFree", a);
            edge.only(a, Poly.product(p, longer[1], longer[1]), 0).keeps(0, "squareFree", a);
        }
    }

    private static void radicalOfNone(int p, int[] longer) {
        Edge edge = new Edge(p, "promise 20: 1 if there is none", 0, 0, 0);
        for (int a = 0; a < Edge.REGISTERS; a++) {
            for (int k = 1; k < p; k++) {
                edge.only(a, k, p).sets(1, "radical", a);
                edge.only(a, k * p, 1).sets(p, "radical", a);
                edge.only(a, k * Check.power(p, 8), 1).sets(p, "radical", a);
                edge.only(a, Poly.product(p, k, longer[2]), 1).sets(longer[2], "radical", a);
            }
        }
    }

    private static void radicalRegister(int p) {
        Edge edge = new Edge(p, "promise 20: -1 if a is not good", p * p, p * p, p * p);
        edge.refusesRegister(-1, "radical");
        for (int a = 0; a < Edge.REGISTERS; a++) {
            edge.sets(p, "radical", a);
        }
    }

    private static void radicalOfZero(int p) {
        Edge edge = new Edge(p, "promise 20: -2 if it is 0", 0, 0, 0);
        for (int a = 0; a < Edge.REGISTERS; a++) {
            edge.keeps(-2, "radical", a);
            edge.only(a, 0, p * p).keeps(-2, "radical", a);
            edge.only(a, 1, 0).sets(1, "radical", a);
            edge.only(a, p - 1, 0).sets(1, "radical", a);
        }
    }

    /** The code of the product of a row's factors, which stand behind its prime. */
    private static int product(int[] row) {
        return Poly.product(row[0], java.util.Arrays.copyOfRange(row, 1, row.length));
    }
}
