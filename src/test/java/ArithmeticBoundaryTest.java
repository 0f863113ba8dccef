/** The boundary cases of promises 6 to 12, a method for each sentence. */
public final class ArithmeticBoundaryTest {
    private static final int[][] ORDERS = {{0, 1, 2}, {0, 2, 1}, {1, 0, 2}, {1, 2, 0}, {2, 0, 1}, {2, 1, 0}};

    public static void main(String[] args) {
        for (int p : Check.PRIMES) {
            addRegisters(p);
            addToItself(p);
            subtractRegisters(p);
            subtractFromItself(p);
            multiplyRegisters(p);
            multiplyDegree(p);
            multiplyByItself(p);
            divideRegisters(p);
            divideSame(p);
            divideByZero(p);
            divideDegrees(p);
            divisorOfZeros(p);
            divisorRegisters(p);
            divisorWithItself(p);
            deriveRegister(p);
            valueAtAnyInt(p);
            valueAtRegister(p);
        }
        Check.finish();
    }

    private static void addRegisters(int p) {
        int x = p;
        int square = p * p;
        Edge edge = new Edge(p, "promise 6: -1 if a or b is not good", 1, x, square);
        edge.refusesTwoRegisters(-1, "add");
        edge.sets(x + 1, "add", 0, 1);
        edge.sets(square + 1, "add", 0, 2);
        edge.sets(x + 1, "add", 1, 0);
        edge.sets(square + x, "add", 1, 2);
        edge.sets(square + 1, "add", 2, 0);
        edge.sets(square + x, "add", 2, 1);
    }

    private static void addToItself(int p) {
        int ones = ones(p);
        Edge edge = new Edge(p, "promise 6: a becomes a + b, where a is b", 0, 0, 0);
        for (int a = 0; a < Edge.REGISTERS; a++) {
            edge.only(a, ones, p).sets(p == 2 ? 0 : 2 * ones, "add", a, a);
            edge.only(a, (p - 1) * ones, p).sets((p - 2) * ones, "add", a, a);
            edge.only(a, 0, p).sets(0, "add", a, a);
        }
    }

    private static void subtractRegisters(int p) {
        int x = p;
        int square = p * p;
        int less = p - 1;
        Edge edge = new Edge(p, "promise 7: -1 if a or b is not good", 1, x, square);
        edge.refusesTwoRegisters(-1, "subtract");
        edge.sets(less * x + 1, "subtract", 0, 1);
        edge.sets(less * square + 1, "subtract", 0, 2);
        edge.sets(x + less, "subtract", 1, 0);
        edge.sets(less * square + x, "subtract", 1, 2);
        edge.sets(square + less, "subtract", 2, 0);
        edge.sets(square + less * x, "subtract", 2, 1);
    }

    private static void subtractFromItself(int p) {
        Edge edge = new Edge(p, "promise 7: a becomes a - b, where a is b", 0, 0, 0);
        for (int a = 0; a < Edge.REGISTERS; a++) {
            edge.only(a, ones(p), p).sets(0, "subtract", a, a);
            edge.only(a, (p - 1) * ones(p), p).sets(0, "subtract", a, a);
            edge.only(a, 0, p).sets(0, "subtract", a, a);
        }
    }

    private static void multiplyRegisters(int p) {
        Edge edge = new Edge(p, "promise 8: -1 if a or b is not good", power(p, 1), power(p, 2), power(p, 4));
        edge.refusesTwoRegisters(-1, "multiply");
        edge.sets(power(p, 3), "multiply", 0, 1);
        edge.sets(power(p, 5), "multiply", 0, 2);
        edge.sets(power(p, 3), "multiply", 1, 0);
        edge.sets(power(p, 6), "multiply", 1, 2);
        edge.sets(power(p, 5), "multiply", 2, 0);
        edge.sets(power(p, 6), "multiply", 2, 1);
    }

    private static void multiplyDegree(int p) {
        int less = p - 1;
        Edge edge = new Edge(p, "promise 8: -2 if its degree would be greater than 8", 0, 0, 0);
        for (int d = 0; d <= 8; d++) {
            int left = power(p, d);
            int right = power(p, 8 - d);
            // x^d times all ones of degree 8 - d stays as long as it can be.
            int shifted = left * ((p * right - 1) / less);
            edge.with(left, right, 1).sets(power(p, 8), "multiply", 0, 1);
            edge.with(less * left, 1, less * right).sets(power(p, 8), "multiply", 0, 2);
            edge.with(left, 1, p * right - 1).sets(less * shifted, "multiply", 2, 0);
            for (int e = 9 - d; e <= 8; e++) {
                edge.with(left, power(p, e), 1).keeps(-2, "multiply", 0, 1);
                edge.with(less * left, 1, less * power(p, e)).keeps(-2, "multiply", 0, 2);
                edge.with(left, 1, power(p, e + 1) - 1).keeps(-2, "multiply", 2, 0);
            }
            edge.with(0, left, p * left - 1).sets(0, "multiply", 0, 1);
            edge.with(0, left, p * left - 1).sets(0, "multiply", 2, 0);
        }
        edge.sets(0, "multiply", 0, 1);
    }

    private static void multiplyByItself(int p) {
        Edge edge = new Edge(p, "promise 8: a becomes a * b, where a is b", 0, 0, 0);
        for (int a = 0; a < Edge.REGISTERS; a++) {
            // (x^4 + 1)^2 = x^8 + 2x^4 + 1
            edge.only(a, power(p, 4) + 1, p).sets(power(p, 8) + 2 % p * power(p, 4) + 1, "multiply", a, a);
            edge.only(a, (p - 1) * power(p, 4), p).sets(power(p, 8), "multiply", a, a);
            edge.only(a, p - 1, p).sets(1, "multiply", a, a);
            edge.only(a, 0, p).sets(0, "multiply", a, a);
            for (int d = 5; d <= 8; d++) {
                edge.only(a, power(p, d), 1).keeps(-2, "multiply", a, a);
                edge.only(a, power(p, d + 1) - 1, 0).keeps(-2, "multiply", a, a);
            }
        }
    }

    private static void divideRegisters(int p) {
        Edge edge = new Edge(p, "promise 9: -1 if q, a or b is not good", 1, p, p + 1);
        for (int bad : Edge.BAD_REGISTERS) {
            for (int[] order : ORDERS) {
                edge.keeps(-1, "divide", bad, order[1], order[2]);
                edge.keeps(-1, "divide", order[0], bad, order[2]);
                edge.keeps(-1, "divide", order[0], order[1], bad);
                edge.keeps(-1, "divide", bad, 7, order[2]);
                edge.keeps(-1, "divide", bad, order[1], 7);
                edge.keeps(-1, "divide", order[0], bad, 7);
            }
            edge.keeps(-1, "divide", bad, 7, -7);
        }
        for (int[] order : ORDERS) {
            // x^3 + 1 = x * x^2 + 1
            divides(edge, order, power(p, 3) + 1, p * p, p, 1);
        }
    }

    private static void divideSame(int p) {
        Edge edge = new Edge(p, "promise 9: -2 if two of them are the same", p * p + 1, p + 1, p);
        for (int one = 0; one < Edge.REGISTERS; one++) {
            for (int other = 0; other < Edge.REGISTERS; other++) {
                edge.keeps(-2, "divide", one, one, other);
                edge.keeps(-2, "divide", one, other, one);
                edge.keeps(-2, "divide", other, one, one);
            }
        }
        for (int[] order : ORDERS) {
            // The registers differ, so equal polynomials in them are no reason.
            divides(edge, order, p + 1, p + 1, 1, 0);
        }
    }

    private static void divideByZero(int p) {
        int all = power(p, 9) - 1;
        Edge edge = new Edge(p, "promise 9: -3 if b is 0", 0, 0, 0);
        for (int[] order : ORDERS) {
            int b = order[2];
            edge.keeps(-3, "divide", order[0], order[1], b);
            edge.only(b, 0, 1).keeps(-3, "divide", order[0], order[1], b);
            edge.only(b, 0, all).keeps(-3, "divide", order[0], order[1], b);
            divides(edge, order, all, 1, all, 0);
            divides(edge, order, all, p - 1, ones(p), 0);
            divides(edge, order, all, all, 1, 0);
            divides(edge, order, 0, 1, 0, 0);
            divides(edge, order, 0, all, 0, 0);
        }
    }

    private static void divideDegrees(int p) {
        Edge edge = new Edge(p, "promise 9: the degree of r less than that of b", 0, 0, 0);
        for (int d = 0; d <= 8; d++) {
            int low = power(p, d);
            int ones = (p * low - 1) / (p - 1);
            // The rest of all ones of degree d by x^d, and by twice that.
            int rest = ones - low;
            int half = (p + 1) / 2;
            for (int[] order : ORDERS) {
                divides(edge, order, low - 1, low, 0, low - 1);
                divides(edge, order, ones, low, 1, rest);
                divides(edge, order, ones, p == 2 ? low : 2 * low, p == 2 ? 1 : half, rest);
                divides(edge, order, low, ones, 1, (p - 1) * rest);
            }
        }
    }

    /** Divides in these registers; q holds something before that shall go. */
    private static void divides(Edge edge, int[] order, int x, int y, int quotient, int rest) {
        int[] before = new int[Edge.REGISTERS];
        before[order[0]] = 7;
        before[order[1]] = x;
        before[order[2]] = y;
        int[] after = before.clone();
        after[order[0]] = quotient;
        after[order[1]] = rest;
        edge.with(before).leaves(quotient, after, "divide", order);
    }

    private static void divisorOfZeros(int p) {
        int all = power(p, 9) - 1;
        Edge edge = new Edge(p, "promise 10: 0 if both are 0", 0, 0, 0);
        for (int[] order : ORDERS) {
            int a = order[0];
            int b = order[1];
            edge.sets(0, "divisor", a, b);
            edge.only(order[2], all, 0).sets(0, "divisor", a, b);
            for (int c = 1; c < p; c++) {
                edge.only(a, c, 0).sets(1, "divisor", a, b);
                edge.only(b, c, 0).sets(1, "divisor", a, b);
            }
            edge.only(a, all, 0).sets(ones(p), "divisor", a, b);
            edge.only(b, all, 0).sets(ones(p), "divisor", a, b);
        }
    }

    private static void divisorRegisters(int p) {
        Edge edge = new Edge(p, "promise 10: -1 if a or b is not good", power(p, 1), power(p, 2), power(p, 3));
        edge.refusesTwoRegisters(-1, "divisor");
        edge.with(0, 0, 0).refusesTwoRegisters(-1, "divisor");
        edge.sets(power(p, 1), "divisor", 0, 1);
        edge.sets(power(p, 1), "divisor", 0, 2);
        edge.sets(power(p, 1), "divisor", 1, 0);
        edge.sets(power(p, 2), "divisor", 1, 2);
        edge.sets(power(p, 1), "divisor", 2, 0);
        edge.sets(power(p, 2), "divisor", 2, 1);
    }

    private static void divisorWithItself(int p) {
        Edge edge = new Edge(p, "promise 10: a becomes the monic divisor, where a is b", 0, 0, 0);
        for (int a = 0; a < Edge.REGISTERS; a++) {
            edge.only(a, 0, p).sets(0, "divisor", a, a);
            edge.only(a, p - 1, p).sets(1, "divisor", a, a);
            edge.only(a, ones(p), p).sets(ones(p), "divisor", a, a);
            edge.only(a, (p - 1) * ones(p), p).sets(ones(p), "divisor", a, a);
        }
    }

    private static void deriveRegister(int p) {
        Edge edge = new Edge(p, "promise 11: -1 if a is not good", p, p, p);
        edge.refusesRegister(-1, "derive");
        for (int a = 0; a < Edge.REGISTERS; a++) {
            edge.sets(1, "derive", a);
            edge.only(a, 0, p).sets(0, "derive", a);
            edge.only(a, p - 1, p).sets(0, "derive", a);
            edge.only(a, power(p, 8), p).sets(8 % p * power(p, 7), "derive", a);
            edge.only(a, power(p, p) + 1, p).sets(0, "derive", a);
        }
    }

    private static void valueAtAnyInt(int p) {
        int[] points = {
            Integer.MIN_VALUE, Integer.MIN_VALUE + 1, -p - 1, -p, -p + 1, -1, 0, 1, p - 1, p, p + 1,
            Integer.MAX_VALUE - 1, Integer.MAX_VALUE
        };
        Edge edge = new Edge(p, "promise 12: any int, taken modulo P", p, ones(p), (p - 1) * power(p, 8) + 1);
        for (int x : points) {
            int point = (int) (((long) x + (1L << 32) * p) % p);
            int powers = 0;
            int power = 1;
            for (int i = 0; i < 8; i++) {
                powers += power;
                power = power * point % p;
            }
            edge.keeps(point, "valueAt", 0, x);
            edge.keeps((powers + power) % p, "valueAt", 1, x);
            edge.keeps(((p - 1) * power + 1) % p, "valueAt", 2, x);
            edge.with(0, 0, 0).keeps(0, "valueAt", 0, x);
            edge.with(0, p - 1, 0).keeps(p - 1, "valueAt", 1, x);
        }
        // -2^31 and 2^31 - 1 are 0 and 1 over 2, 1 and 1 over 3, 2 and 2 over 5.
        edge.keeps(p == 2 ? 0 : p == 3 ? 1 : 2, "valueAt", 0, Integer.MIN_VALUE);
        edge.keeps(p == 5 ? 2 : 1, "valueAt", 0, Integer.MAX_VALUE);
    }

    private static void valueAtRegister(int p) {
        Edge edge = new Edge(p, "promise 12: -1 if a is not good", 0, 1, p);
        int[] points = {0, 1, -1, p, Integer.MIN_VALUE, Integer.MAX_VALUE};
        for (int x : points) {
            edge.refusesRegister(-1, "valueAt", x);
        }
        for (int a = 0; a < Edge.REGISTERS; a++) {
            edge.only(a, 1, 0).keeps(1, "valueAt", a, 0);
            edge.only(a, 0, 1).keeps(0, "valueAt", a, 0);
            edge.only(a, p, 0).keeps(p - 1, "valueAt", a, -1);
        }
    }

    private static int power(int p, int exponent) {
        return Check.power(p, exponent);
    }

    /** The polynomial of degree 8 whose coefficients are all 1. */
    private static int ones(int p) {
        return (power(p, 9) - 1) / (p - 1);
    }
}
