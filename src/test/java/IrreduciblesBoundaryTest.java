/** The boundary cases of promises 21 and 22, a method for each sentence. */
public final class IrreduciblesBoundaryTest {
    /** A prime, then how many there are of degree 1 and of degree 4. */
    private static final int[][] COUNTS = {{2, 2, 3}, {3, 3, 18}, {5, 5, 150}};
    /**
     * A prime, then the first and the last irreducible polynomial of degree 1,
     * of degree 2, .., of degree 8; and at the end the first of degree 9.
     */
    private static final int[][] ENDS = {
        {2, 2, 3, 7, 7, 11, 13, 19, 31, 37, 61, 67, 117, 131, 253, 283, 505, 515},
        {3, 3, 5, 10, 17, 34, 53, 86, 158, 250, 482, 734, 1457, 2198, 4369, 6572, 13118, 19747},
        {5, 5, 9, 27, 47, 131, 249, 627, 1249, 3146, 6249, 15632, 31247, 78131, 156247, 390627, 781249, 1953163}
    };

    public static void main(String[] args) {
        for (int[] row : COUNTS) {
            irreduciblesDegree(row);
        }
        for (int[] row : ENDS) {
            afterAnyInt(row);
            degreeOneToEight(row);
            noneLeft(row);
        }
        Check.finish();
    }

    private static void irreduciblesDegree(int[] row) {
        Edge edge = new Edge(row[0], "promise 21: -1 if degree is not in 1 .. 4", 1, 2, 3);
        int[] bad = {
            0, 5, Integer.MIN_VALUE, Integer.MAX_VALUE, -1, -4, 6, 8, 9, 10, 257, 65537, Integer.MIN_VALUE + 1
        };
        for (int degree : bad) {
            edge.keeps(-1, "irreducibles", degree);
        }
        edge.keeps(row[1], "irreducibles", 1);
        edge.keeps(row[2], "irreducibles", 4);
    }

    private static void afterAnyInt(int[] row) {
        int p = row[0];
        Edge edge = new Edge(p, "promise 22: greater than after (any int)", 1, 2, 3);
        int[] before = {Integer.MIN_VALUE, Integer.MIN_VALUE + 1, -65536, -p, -2, -1, 0, 1, p - 1};
        for (int after : before) {
            edge.keeps(p, "nextIrreducible", after);
        }
        // Greater, not equal: a code that is irreducible itself is passed over.
        edge.keeps(p + 1, "nextIrreducible", p);
        int[] behind = {Integer.MAX_VALUE, Integer.MAX_VALUE - 1, 1 << 30, Integer.MAX_VALUE / 2};
        for (int after : behind) {
            edge.keeps(-1, "nextIrreducible", after);
        }
    }

    private static void degreeOneToEight(int[] row) {
        int p = row[0];
        Edge edge = new Edge(p, "promise 22: of degree 1 .. 8", 0, 0, 0);
        // 1 is monic, but of degree 0.
        edge.keeps(p, "nextIrreducible", 0);
        for (int d = 1; d <= 8; d++) {
            int first = row[2 * d - 1];
            int last = row[2 * d];
            edge.keeps(first, "nextIrreducible", first - 1);
            edge.keeps(first, "nextIrreducible", Check.power(p, d) - 1);
            edge.keeps(last, "nextIrreducible", last - 1);
            // Behind the last monic one of a degree stand those that are not monic.
            if (d < 8) {
                edge.keeps(row[2 * d + 1], "nextIrreducible", last);
                edge.keeps(row[2 * d + 1], "nextIrreducible", 2 * Check.power(p, d) - 1);
                edge.keeps(row[2 * d + 1], "nextIrreducible", 2 * Check.power(p, d));
            }
        }
    }

    private static void noneLeft(int[] row) {
        int p = row[0];
        int last = row[16];
        int firstOfNine = row[17];
        Edge edge = new Edge(p, "promise 22: -1 if there is none", 1, 2, 3);
        edge.keeps(last, "nextIrreducible", last - 1);
        int top = Check.power(p, 8);
        int[] behind = {
            last, last + 1, 2 * top - 1, 2 * top, p * top - 1, p * top, firstOfNine - 1, firstOfNine, Integer.MAX_VALUE
        };
        for (int after : behind) {
            edge.keeps(-1, "nextIrreducible", after);
        }
    }
}
