/** Promises 6 to 12: add, subtract, multiply, divide, divisor, derive, valueAt. */
public final class ArithmeticTest {
    public static void main(String[] args) {
        add();
        subtract();
        multiply();
        divide();
        divisor();
        derive();
        valueAt();
        for (int p : Check.PRIMES) {
            addAndSubtractEdges(p);
            multiplyEdges(p);
            divideEdges(p);
            divisorEdges(p);
            deriveEdges(p);
        }
        Check.finish();
    }

    private static void add() {
        addOne(2, new int[] {1, 1, 0, 1}, new int[] {1, 0, 1, 1}, new int[] {0, 1, 1});
        addOne(3, new int[] {1, 2, 2}, new int[] {1, 2, 1, 2}, new int[] {2, 1, 0, 2});
        addOne(5, new int[] {3, 4}, new int[] {4, 3, 1}, new int[] {2, 2, 1});
    }

    private static void addOne(int p, int[] x, int[] y, int[] sum) {
        int left = Check.poly(p, x);
        int right = Check.poly(p, y);
        int due = Check.poly(p, sum);
        FactorField field = Check.loaded(p, left, right, 1);
        Check.due(p, "add(0, 1)", field.add(0, 1), due);
        Check.registers("add(0, 1)", field, due, right, 1);
        field = Check.loaded(p, left, 1, right);
        Check.due(p, "add(2, 0)", field.add(2, 0), due);
        Check.registers("add(2, 0)", field, left, 1, due);
    }

    private static void subtract() {
        subtractOne(2, new int[] {1, 1, 0, 1}, new int[] {1, 0, 1, 1}, new int[] {0, 1, 1});
        subtractOne(3, new int[] {1, 2, 0}, new int[] {2, 2, 1}, new int[] {2, 0, 2});
        subtractOne(5, new int[] {3, 4}, new int[] {4, 3, 1}, new int[] {4, 1, 4});
    }

    private static void subtractOne(int p, int[] x, int[] y, int[] difference) {
        int left = Check.poly(p, x);
        int right = Check.poly(p, y);
        int due = Check.poly(p, difference);
        FactorField field = Check.loaded(p, 1, left, right);
        Check.due(p, "subtract(1, 2)", field.subtract(1, 2), due);
        Check.registers("subtract(1, 2)", field, 1, due, right);
    }

    private static void addAndSubtractEdges(int p) {
        int all = Check.power(p, 9) - 1;
        int ones = all / (p - 1);
        FactorField field = Check.loaded(p, all, ones, 0);
        Check.due(p, "add(0, 1) with a carry in no place", field.add(0, 1), 0);
        Check.due(p, "add(0, 2), 0 and 0", field.add(0, 2), 0);
        Check.due(p, "subtract(0, 1) from 0", field.subtract(0, 1), all);
        Check.due(p, "add(1, 2) of 0", field.add(1, 2), ones);
        Check.due(p, "add(1, 1)", field.add(1, 1), p == 2 ? 0 : 2 * ones);
        Check.due(p, "subtract(0, 0)", field.subtract(0, 0), 0);
    }

    private static void multiply() {
        // (x^2 + x + 1)(x^3 + x + 1) = x^5 + x^4 + 1
        multiplyOne(2, new int[] {1, 1, 1}, new int[] {1, 1, 0, 1}, new int[] {1, 0, 0, 0, 1, 1});
        // (2x^2 + x + 1)(x + 2) = 2x^3 + 5x^2 + 3x + 2
        multiplyOne(3, new int[] {1, 1, 2}, new int[] {2, 1}, new int[] {2, 0, 2, 2});
        // (3x^2 + 4)(4x + 3) = 12x^3 + 9x^2 + 16x + 12
        multiplyOne(5, new int[] {4, 0, 3}, new int[] {3, 4}, new int[] {2, 1, 4, 2});
    }

    private static void multiplyOne(int p, int[] x, int[] y, int[] product) {
        int left = Check.poly(p, x);
        int right = Check.poly(p, y);
        int due = Check.poly(p, product);
        FactorField field = Check.loaded(p, left, 1, right);
        Check.due(p, "multiply(0, 2)", field.multiply(0, 2), due);
        Check.registers("multiply(0, 2)", field, due, 1, right);
        field = Check.loaded(p, left, right, 1);
        Check.due(p, "multiply(1, 0)", field.multiply(1, 0), due);
        Check.registers("multiply(1, 0)", field, left, due, 1);
    }

    private static void multiplyEdges(int p) {
        int top = Check.power(p, 8);
        for (int d = 0; d <= 8; d++) {
            int low = Check.power(p, d);
            int high = Check.power(p, 8 - d);
            FactorField field = Check.loaded(p, low, high, p * high - 1);
            Check.due(p, "x^d * x^(8-d)", field.multiply(0, 1), top);
            if (d > 0) {
                field.load(0, p * low - 1);
                field.load(1, p * high);
                Check.due(p, "a product of degree 9", field.multiply(0, 1), -2);
                Check.registers("degree 9", field, p * low - 1, p * high, p * high - 1);
            }
        }
        FactorField field = Check.loaded(p, top, 0, p * top - 1);
        Check.due(p, "degree 16", field.multiply(0, 2), -2);
        Check.due(p, "degree 16 by itself", field.multiply(2, 2), -2);
        Check.registers("degree 16", field, top, 0, p * top - 1);
        Check.due(p, "0 times degree 8", field.multiply(1, 2), 0);
        Check.due(p, "degree 8 times 0", field.multiply(2, 1), 0);
        Check.due(p, "0 times 0", field.multiply(1, 1), 0);
        field.load(1, p - 1);
        Check.due(p, "degree 8 times p - 1", field.multiply(0, 1), (p - 1) * top);
        field.load(2, Check.poly(p, 1, 0, 0, 0, 1));
        Check.due(p, "(x^4 + 1)^2", field.multiply(2, 2), Check.poly(p, 1, 0, 0, 0, 2 % p, 0, 0, 0, 1));
    }

    private static void divide() {
        // x^5 + x^3 + 1 = (x^3 + x^2 + x)(x^2 + x + 1) + x + 1 over 2
        divideOne(2, new int[] {1, 0, 0, 1, 0, 1}, new int[] {1, 1, 1}, new int[] {0, 1, 1, 1}, new int[] {1, 1});
        // x^3 + 2x + 1 = (2x^2 + 2x)(2x + 1) + 1 over 3
        divideOne(3, new int[] {1, 2, 0, 1}, new int[] {1, 2}, new int[] {0, 2, 2}, new int[] {1});
        // 4x^3 + 2x^2 + 1 = (3x + 4)(3x^2 + 1) + 2x + 2 over 5
        divideOne(5, new int[] {1, 0, 2, 4}, new int[] {1, 0, 3}, new int[] {4, 3}, new int[] {2, 2});
    }

    private static void divideOne(int p, int[] x, int[] y, int[] quotient, int[] rest) {
        int left = Check.poly(p, x);
        int right = Check.poly(p, y);
        int q = Check.poly(p, quotient);
        int r = Check.poly(p, rest);
        int[][] orders = {{0, 1, 2}, {0, 2, 1}, {1, 0, 2}, {1, 2, 0}, {2, 0, 1}, {2, 1, 0}};
        for (int[] order : orders) {
            FactorField field = Check.field(p);
            field.load(order[0], 1);
            field.load(order[1], left);
            field.load(order[2], right);
            Check.due(p, "divide", field.divide(order[0], order[1], order[2]), q);
            Check.due(p, "divide, quotient", field.code(order[0]), q);
            Check.due(p, "divide, remainder", field.code(order[1]), r);
            Check.due(p, "divide, divisor", field.code(order[2]), right);
        }
    }

    private static void divideEdges(int p) {
        int all = Check.power(p, 9) - 1;
        FactorField field = Check.loaded(p, 1, all, p - 1);
        Check.due(p, "by the coefficient p - 1", field.divide(0, 1, 2), all / (p - 1));
        Check.registers("by the coefficient p - 1", field, all / (p - 1), 0, p - 1);
        field = Check.loaded(p, 7, p, p * p + 1);
        Check.due(p, "by a greater degree", field.divide(0, 1, 2), 0);
        Check.registers("by a greater degree", field, 0, p, p * p + 1);
        field = Check.loaded(p, 7, 0, p);
        Check.due(p, "0 by x", field.divide(0, 1, 2), 0);
        Check.registers("0 by x", field, 0, 0, p);
        field = Check.loaded(p, 7, all, all);
        Check.due(p, "by the same polynomial", field.divide(0, 1, 2), 1);
        Check.registers("by the same polynomial", field, 1, 0, all);
        field = Check.loaded(p, 7, all, p);
        Check.due(p, "by x", field.divide(0, 1, 2), all / p);
        Check.registers("by x", field, all / p, p - 1, p);
    }

    private static void divisor() {
        // (x + 1)(x^2 + x + 1) and (x + 1)^2 x
        divisorOne(2, new int[] {1, 0, 0, 1}, new int[] {0, 1, 0, 1}, new int[] {1, 1});
        // 2(x + 1)(x + 2) and 2(x + 2)x
        divisorOne(3, new int[] {1, 0, 2}, new int[] {0, 1, 2}, new int[] {2, 1});
        // 3(x + 1)(x + 4) and 2(x + 4)^2
        divisorOne(5, new int[] {2, 0, 3}, new int[] {2, 1, 2}, new int[] {4, 1});
    }

    private static void divisorOne(int p, int[] x, int[] y, int[] common) {
        int left = Check.poly(p, x);
        int right = Check.poly(p, y);
        int due = Check.poly(p, common);
        FactorField field = Check.loaded(p, left, right, 1);
        Check.due(p, "divisor(0, 1)", field.divisor(0, 1), due);
        Check.registers("divisor(0, 1)", field, due, right, 1);
        field = Check.loaded(p, left, right, 1);
        Check.due(p, "divisor(1, 0)", field.divisor(1, 0), due);
        Check.registers("divisor(1, 0)", field, left, due, 1);
    }

    private static void divisorEdges(int p) {
        int all = Check.power(p, 9) - 1;
        int ones = all / (p - 1);
        FactorField field = Check.loaded(p, 0, 0, all);
        Check.due(p, "divisor of 0 and 0", field.divisor(0, 1), 0);
        Check.due(p, "divisor(0, 0) of 0", field.divisor(0, 0), 0);
        Check.due(p, "divisor of 0 and a polynomial", field.divisor(0, 2), ones);
        Check.due(p, "divisor of a polynomial and 0", field.divisor(2, 1), ones);
        Check.registers("divisor with 0", field, ones, 0, ones);
        field = Check.loaded(p, all, p - 1, Check.power(p, 8));
        Check.due(p, "divisor(0, 0)", field.divisor(0, 0), ones);
        Check.due(p, "divisor without a common factor", field.divisor(2, 0), 1);
        Check.due(p, "divisor with a coefficient", field.divisor(0, 1), 1);
        Check.due(p, "divisor of a coefficient by itself", field.divisor(1, 1), 1);
        longestDivisor(p);
    }

    /** The degree falls by one with each step, so that no division is left out. */
    private static void longestDivisor(int p) {
        int[] before = {1};
        int[] last = {1, 1};
        for (int n = 0; n < 7; n++) {
            int[] next = Poly.plusTimes(p, before, 1, Poly.times(p, new int[] {0, 1}, last));
            before = last;
            last = next;
        }
        int left = Poly.code(p, last);
        int right = Poly.code(p, before);
        FactorField field = Check.loaded(p, left, right, left);
        Check.due(p, "degree of the longer", field.degree(0), 8);
        Check.due(p, "degree of the shorter", field.degree(1), 7);
        Check.due(p, "divisor in the most steps", field.divisor(0, 1), 1);
        Check.due(p, "the same turned round", field.divisor(1, 2), 1);
    }

    private static void derive() {
        deriveOne(2, new int[] {1, 1, 1, 1, 1, 1, 1, 1, 1}, new int[] {1, 0, 1, 0, 1, 0, 1});
        deriveOne(3, new int[] {2, 2, 2, 2, 2, 2, 2, 2, 2}, new int[] {2, 1, 0, 2, 1, 0, 2, 1});
        deriveOne(5, new int[] {4, 3, 2, 1, 4, 3, 2, 1, 3}, new int[] {3, 4, 3, 1, 0, 2, 2, 4});
    }

    private static void deriveOne(int p, int[] x, int[] derivative) {
        int code = Check.poly(p, x);
        int due = Check.poly(p, derivative);
        FactorField field = Check.loaded(p, 1, code, 1);
        Check.due(p, "derive(1)", field.derive(1), due);
        Check.registers("derive(1)", field, 1, due, 1);
    }

    private static void deriveEdges(int p) {
        int xToThePrime = Check.power(p, p);
        FactorField field = Check.loaded(p, 0, p - 1, xToThePrime + 1);
        Check.due(p, "derive 0", field.derive(0), 0);
        Check.due(p, "derive a coefficient", field.derive(1), 0);
        Check.due(p, "derive x^p + 1", field.derive(2), 0);
        Check.registers("derive", field, 0, 0, 0);
        field.load(0, (p - 1) * p + 1);
        Check.due(p, "derive (p-1)x + 1", field.derive(0), p - 1);
    }

    private static void valueAt() {
        valuesOf(2, new int[] {1, 1, 0, 1}, new int[] {1, 1});
        valuesOf(2, new int[] {1, 0, 0, 0, 0, 0, 0, 0, 1}, new int[] {1, 0});
        valuesOf(3, new int[] {1, 2, 2}, new int[] {1, 2, 1});
        valuesOf(3, new int[] {0, 1, 0, 0, 0, 0, 0, 0, 1}, new int[] {0, 2, 0});
        // 2x^3 + 4x + 1: 1, 7, 25, 67, 145
        valuesOf(5, new int[] {1, 4, 0, 2}, new int[] {1, 2, 0, 2, 0});
        // 3x^8 + 2 is 0 at 1, 2, 3 and 4, as x^4 is 1 there
        valuesOf(5, new int[] {2, 0, 0, 0, 0, 0, 0, 0, 3}, new int[] {2, 0, 0, 0, 0});
    }

    private static void valuesOf(int p, int[] x, int[] values) {
        int code = Check.poly(p, x);
        FactorField field = Check.loaded(p, 1, 1, code);
        for (int point = 0; point < p; point++) {
            Check.due(p, "valueAt(2, " + point + ")", field.valueAt(2, point), values[point]);
            Check.due(p, "valueAt, one p up", field.valueAt(2, point + p), values[point]);
            Check.due(p, "valueAt, one p down", field.valueAt(2, point - p), values[point]);
            Check.due(p, "valueAt, many p down", field.valueAt(2, point - 100 * p), values[point]);
        }
        Check.registers("valueAt", field, 1, 1, code);
    }
}
