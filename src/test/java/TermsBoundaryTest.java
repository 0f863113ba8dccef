/** The boundary cases of the document's terms, a method for each sentence. */
public final class TermsBoundaryTest {
    private static final String[] ONE_REGISTER = {
        "code", "degree", "derive", "roots", "irreducible", "factors", "greatest", "squareFree", "radical"
    };
    private static final String[] REGISTER_AND_NUMBER = {"load", "valueAt", "factor", "multiplicity"};
    private static final String[] TWO_REGISTERS = {"add", "subtract", "multiply", "divisor"};

    public static void main(String[] args) {
        for (int p : Check.PRIMES) {
            zeroAtFirst(p);
            threeRegisters(p);
            goodCodes(p);
            degreeOfZero(p);
            questionsChangeNothing(p);
            refusedCallsChangeNothing(p);
            badRegisterBeforeAll(p);
            orderOfLoad(p);
            orderOfMultiply(p);
            orderOfDivide(p);
            orderOfFactorNumbers(p, "factor");
            orderOfFactorNumbers(p, "multiplicity");
        }
        Check.finish();
    }

    private static void zeroAtFirst(int p) {
        FactorField field = Check.field(p);
        Check.registers("terms: all are 0 at first | prime " + p, field, 0, 0, 0);
    }

    private static void threeRegisters(int p) {
        String sentence = "terms: three registers, 0 .. 2 | ";
        for (int a = 0; a < Edge.REGISTERS; a++) {
            FactorField field = Check.field(p);
            Check.due(p, sentence + "load(" + a + ", 7)", field.load(a, 7), 0);
            Check.registers(sentence + "load(" + a + ", 7)", field, a == 0 ? 7 : 0, a == 1 ? 7 : 0, a == 2 ? 7 : 0);
            Check.due(p, sentence + "load(-1, 7)", field.load(-1, 7), -1);
            Check.due(p, sentence + "load(3, 7)", field.load(3, 7), -1);
            Check.due(p, sentence + "code(-1)", field.code(-1), -1);
            Check.due(p, sentence + "code(3)", field.code(3), -1);
        }
    }

    private static void goodCodes(int p) {
        String sentence = "terms: a code is good in 0 .. P^9 - 1 | ";
        int end = Check.power(p, 9);
        FactorField field = Check.loaded(p, 0, 1, end - 1);
        Check.registers(sentence + "load", field, 0, 1, end - 1);
        Check.due(p, sentence + "load(0, P^9 - 1)", field.load(0, end - 1), 0);
        Check.due(p, sentence + "load(2, 0)", field.load(2, 0), end - 1);
        Check.due(p, sentence + "load(0, P^9)", field.load(0, end), -2);
        Check.due(p, sentence + "load(2, -1)", field.load(2, -1), -2);
        Check.registers(sentence + "load", field, end - 1, 1, 0);
    }

    /** Every way by which a register becomes 0, and its degree then. */
    private static void degreeOfZero(int p) {
        String sentence = "terms: the degree is -1 for the polynomial 0 | ";
        FactorField field = Check.field(p);
        Check.due(p, sentence + "at first", field.degree(0), -1);
        field.load(0, p);
        field.load(1, p);
        Check.due(p, sentence + "of x", field.degree(0), 1);
        field.subtract(0, 1);
        Check.due(p, sentence + "x - x", field.degree(0), -1);
        field.multiply(1, 0);
        Check.due(p, sentence + "x * 0", field.degree(1), -1);
        field.divisor(1, 0);
        Check.due(p, sentence + "the divisor of 0 and 0", field.degree(1), -1);
        field.load(2, 1);
        Check.due(p, sentence + "of 1", field.degree(2), 0);
        field.derive(2);
        Check.due(p, sentence + "the derivative of 1", field.degree(2), -1);
        field.load(0, 1);
        field.load(1, 1);
        field.divide(2, 0, 1);
        Check.due(p, sentence + "the remainder of 1 by 1", field.degree(0), -1);
        Check.due(p, sentence + "the quotient of 1 by 1", field.degree(2), 0);
        field.divide(2, 0, 1);
        Check.due(p, sentence + "the quotient of 0 by 1", field.degree(2), -1);
        field.load(1, 0);
        Check.due(p, sentence + "0 loaded", field.degree(1), -1);
    }

    private static void questionsChangeNothing(int p) {
        int all = Check.power(p, 9) - 1;
        // (p - 1) x^2 has the roots and factors of x, and no leading 1 for p > 2.
        int square = (p - 1) * p * p;
        Edge edge = new Edge(p, "terms: no question changes anything", 0, 0, 0);
        for (int a = 0; a < Edge.REGISTERS; a++) {
            for (int others : new int[] {0, 1, all}) {
                Edge known = edge.only(a, square, others);
                known.keeps(p, "prime");
                known.keeps(square, "code", a);
                known.keeps(2, "degree", a);
                known.keeps(p - 1, "valueAt", a, 1);
                known.keeps(1, "roots", a);
                known.keeps(0, "irreducible", a);
                known.keeps(1, "factors", a);
                known.keeps(p, "factor", a, 0);
                known.keeps(2, "multiplicity", a, 0);
                known.keeps(1, "greatest", a);
                known.keeps(0, "squareFree", a);
                known.keeps(p, "irreducibles", 1);
                known.keeps(p + 1, "nextIrreducible", p);
            }
        }
    }

    private static void refusedCallsChangeNothing(int p) {
        int top = Check.power(p, 8);
        int end = p * top;
        Edge edge = new Edge(p, "terms: a refused call changes nothing", top, 0, end - 1);
        for (int bad : new int[] {-1, 3, Integer.MIN_VALUE, Integer.MAX_VALUE}) {
            for (String method : ONE_REGISTER) {
                edge.keeps(method.equals("degree") ? -2 : -1, method, bad);
            }
            for (String method : REGISTER_AND_NUMBER) {
                edge.keeps(-1, method, bad, 0);
            }
            for (String method : TWO_REGISTERS) {
                for (int good = 0; good < Edge.REGISTERS; good++) {
                    edge.keeps(-1, method, bad, good);
                    edge.keeps(-1, method, good, bad);
                }
            }
            edge.keeps(-1, "divide", bad, 0, 2);
            edge.keeps(-1, "divide", 1, bad, 2);
            edge.keeps(-1, "divide", 1, 2, bad);
        }
        for (int a = 0; a < Edge.REGISTERS; a++) {
            edge.keeps(-2, "load", a, -1);
            edge.keeps(-2, "load", a, end);
            edge.keeps(-2, "divide", a, a, 2);
            edge.keeps(-2, "divide", a, 2, a);
            edge.keeps(-2, "divide", 2, a, a);
        }
        edge.keeps(-2, "multiply", 0, 0);
        edge.keeps(-2, "multiply", 0, 2);
        edge.keeps(-2, "multiply", 2, 0);
        edge.keeps(-3, "divide", 0, 2, 1);
        edge.keeps(-3, "divide", 2, 0, 1);
        for (String method : new String[] {"factors", "greatest", "squareFree", "radical"}) {
            edge.keeps(-2, method, 1);
        }
        for (String method : new String[] {"factor", "multiplicity"}) {
            edge.keeps(-2, method, 1, 0);
            edge.keeps(-3, method, 0, -1);
            edge.keeps(-3, method, 0, 1);
        }
        edge.keeps(-1, "irreducibles", 0);
        edge.keeps(-1, "irreducibles", 5);
    }

    /** No later test is made for a bad register, whatever the good ones hold. */
    private static void badRegisterBeforeAll(int p) {
        int all = Check.power(p, 9) - 1;
        Edge edge = new Edge(p, "terms: the tests are made in the order named, -1 first", 0, 0, 0);
        for (Edge state : new Edge[] {edge, edge.with(1, 1, 1), edge.with(all, all, all)}) {
            for (String method : ONE_REGISTER) {
                state.refusesRegister(method.equals("degree") ? -2 : -1, method);
            }
            for (String method : REGISTER_AND_NUMBER) {
                for (int number : new int[] {0, -1, 9, all + 1, Integer.MIN_VALUE, Integer.MAX_VALUE}) {
                    state.refusesRegister(-1, method, number);
                }
            }
        }
    }

    private static void orderOfLoad(int p) {
        int end = Check.power(p, 9);
        Edge edge = new Edge(p, "terms: the tests are made in the order named, load", 1, 2, 3);
        for (int code : new int[] {-1, end, Integer.MIN_VALUE, Integer.MAX_VALUE}) {
            edge.refusesRegister(-1, "load", code);
            edge.keeps(-2, "load", 0, code);
            edge.keeps(-2, "load", 2, code);
        }
    }

    private static void orderOfMultiply(int p) {
        int top = Check.power(p, 8);
        Edge edge = new Edge(p, "terms: the tests are made in the order named, multiply", top, top, top);
        edge.refusesTwoRegisters(-1, "multiply");
        edge.keeps(-2, "multiply", 0, 2);
        edge.keeps(-2, "multiply", 2, 0);
    }

    private static void orderOfDivide(int p) {
        Edge edge = new Edge(p, "terms: the tests are made in the order named, divide", p, p + 1, 0);
        int zero = 2;
        for (int bad : Edge.BAD_REGISTERS) {
            for (int good = 0; good < Edge.REGISTERS; good++) {
                // A bad one and two the same, with and without a divisor 0.
                edge.keeps(-1, "divide", bad, bad, good);
                edge.keeps(-1, "divide", bad, good, bad);
                edge.keeps(-1, "divide", good, bad, bad);
                edge.keeps(-1, "divide", bad, good, good);
                edge.keeps(-1, "divide", good, bad, good);
                edge.keeps(-1, "divide", good, good, bad);
                // A bad one and a divisor 0.
                edge.keeps(-1, "divide", bad, good, zero);
                edge.keeps(-1, "divide", good, bad, zero);
            }
            edge.keeps(-1, "divide", bad, bad, bad);
        }
        // Two the same and a divisor 0.
        edge.keeps(-2, "divide", 0, 0, zero);
        edge.keeps(-2, "divide", 1, 1, zero);
        edge.keeps(-2, "divide", 0, zero, zero);
        edge.keeps(-2, "divide", 1, zero, zero);
        edge.keeps(-2, "divide", zero, 0, zero);
        edge.keeps(-2, "divide", zero, 1, zero);
        edge.keeps(-2, "divide", zero, zero, zero);
        edge.keeps(-3, "divide", 0, 1, zero);
        edge.keeps(-3, "divide", 1, 0, zero);
    }

    /** The polynomial 0 comes before the number, whatever the number is. */
    private static void orderOfFactorNumbers(int p, String method) {
        Edge edge = new Edge(p, "terms: the tests are made in the order named, " + method, 0, 0, 0);
        for (int i : new int[] {0, -1, 1, 8, 9, Integer.MIN_VALUE, Integer.MAX_VALUE}) {
            for (int a = 0; a < Edge.REGISTERS; a++) {
                edge.keeps(-2, method, a, i);
                edge.only(a, 0, p).keeps(-2, method, a, i);
                edge.only(a, 1, 0).keeps(-3, method, a, i);
            }
        }
    }
}
