/** The boundary cases of promises 1 to 5, a method for each sentence. */
public final class StateBoundaryTest {
    public static void main(String[] args) {
        anyOtherChoice();
        for (int p : Check.PRIMES) {
            loadRegister(p);
            loadCode(p);
            codeRegister(p);
            degreeOfZero(p);
            degreeRegister(p);
        }
        Check.finish();
    }

    /** Choice, then the prime: 0 and 1 stand between others on both sides. */
    private static void anyOtherChoice() {
        int[][] rows = {
            {-1, 5}, {0, 2}, {1, 3}, {2, 5}, {3, 5}, {5, 5}, {256, 5}, {257, 5}, {65536, 5}, {65537, 5},
            {Integer.MIN_VALUE, 5}, {Integer.MIN_VALUE + 1, 5}, {Integer.MAX_VALUE, 5}
        };
        for (int[] row : rows) {
            String made = "promise 1: any other choice gives P = 5 | choice " + row[0];
            FactorField field = new FactorField(row[0]);
            int end = Check.power(row[1], 9);
            Check.due(made + ", prime()", field.prime(), row[1]);
            Check.registers(made, field, 0, 0, 0);
            Check.due(made + ", load(0, P^9)", field.load(0, end), -2);
            Check.due(made + ", load(0, P^9 - 1)", field.load(0, end - 1), 0);
        }
    }

    private static void loadRegister(int p) {
        Edge edge = new Edge(p, "promise 3: -1 if a is not good", 1, 2, 3);
        edge.refusesRegister(-1, "load", 4);
        edge.leaves(1, new int[] {4, 2, 3}, "load", 0, 4);
        edge.leaves(2, new int[] {1, 4, 3}, "load", 1, 4);
        edge.leaves(3, new int[] {1, 2, 4}, "load", 2, 4);
    }

    private static void loadCode(int p) {
        int end = Check.power(p, 9);
        Edge edge = new Edge(p, "promise 3: -2 if code is not good", 1, 2, 3);
        int[] bad = {-1, end, Integer.MIN_VALUE, Integer.MAX_VALUE, -end, end + 1, 2 * end, end * p};
        for (int a = 0; a < Edge.REGISTERS; a++) {
            for (int code : bad) {
                edge.keeps(-2, "load", a, code);
            }
        }
        edge.leaves(1, new int[] {0, 2, 3}, "load", 0, 0);
        edge.leaves(1, new int[] {end - 1, 2, 3}, "load", 0, end - 1);
        edge.leaves(3, new int[] {1, 2, 0}, "load", 2, 0);
        edge.leaves(3, new int[] {1, 2, end - 1}, "load", 2, end - 1);
        edge.with(1, end - 1, 3).leaves(end - 1, new int[] {1, 0, 3}, "load", 1, 0);
        edge.with(1, 0, 3).leaves(0, new int[] {1, end - 1, 3}, "load", 1, end - 1);
    }

    private static void codeRegister(int p) {
        int last = Check.power(p, 9) - 1;
        Edge edge = new Edge(p, "promise 4: -1 if a is not good", last, 0, 1);
        edge.refusesRegister(-1, "code");
        edge.keeps(last, "code", 0);
        edge.keeps(0, "code", 1);
        edge.keeps(1, "code", 2);
    }

    private static void degreeOfZero(int p) {
        Edge edge = new Edge(p, "promise 5: -1 for 0", 0, 0, 0);
        for (int a = 0; a < Edge.REGISTERS; a++) {
            edge.only(a, 0, p).keeps(-1, "degree", a);
            edge.only(a, 1, 0).keeps(0, "degree", a);
            edge.only(a, p - 1, 0).keeps(0, "degree", a);
            edge.only(a, p, 0).keeps(1, "degree", a);
            edge.only(a, Check.power(p, 8) - 1, 0).keeps(7, "degree", a);
            edge.only(a, Check.power(p, 8), 0).keeps(8, "degree", a);
            edge.only(a, Check.power(p, 9) - 1, 0).keeps(8, "degree", a);
        }
    }

    private static void degreeRegister(int p) {
        Edge edge = new Edge(p, "promise 5: -2 if a is not good", 1, p, p * p);
        edge.refusesRegister(-2, "degree");
        edge.with(0, 0, 0).refusesRegister(-2, "degree");
        edge.keeps(0, "degree", 0);
        edge.keeps(1, "degree", 1);
        edge.keeps(2, "degree", 2);
    }
}
