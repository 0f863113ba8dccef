import java.lang.reflect.InvocationTargetException;
import java.lang.reflect.Method;
import java.util.Arrays;

/**
 * The boundary cases of one sentence of the document. Each case is one call on
 * a new object, so that no other call can hide what it changed.
 */
final class Edge {
    /** The first that are not good, the ends of int, and some whose low bits look good. */
    static final int[] BAD_REGISTERS = {
        -1, 3, Integer.MIN_VALUE, Integer.MAX_VALUE, -2, -3, 4, 256, 65537, Integer.MIN_VALUE + 2
    };
    static final int REGISTERS = 3;

    private final int prime;
    private final String sentence;
    private final int[] before;

    /** The three registers hold the codes of before when a call is made. */
    Edge(int prime, String sentence, int... before) {
        this.prime = prime;
        this.sentence = sentence;
        this.before = before.clone();
    }

    Edge with(int... registers) {
        return new Edge(prime, sentence, registers);
    }

    /** Register a holds the code, the two others hold another one. */
    Edge only(int a, int code, int others) {
        int[] registers = {others, others, others};
        registers[a] = code;
        return with(registers);
    }

    /** A question, or a refused call: all three registers stay what they were. */
    void keeps(int due, String method, int... arguments) {
        leaves(due, before, method, arguments);
    }

    /** The call answers what the register of its first argument becomes. */
    void sets(int due, String method, int... arguments) {
        int[] after = before.clone();
        after[arguments[0]] = due;
        leaves(due, after, method, arguments);
    }

    void leaves(int due, int[] after, String method, int... arguments) {
        FactorField field = Check.loaded(prime, before[0], before[1], before[2]);
        String list = Arrays.toString(arguments);
        String call = sentence + " | prime " + prime + ", registers " + Arrays.toString(before) + ": "
            + method + "(" + list.substring(1, list.length() - 1) + ")";
        Check.due(call, answer(field, method, arguments), due);
        Check.registers(call, field, after[0], after[1], after[2]);
        Check.due(call + ", then prime()", field.prime(), prime);
    }

    /** Every bad register as the first argument, with these behind it. */
    void refusesRegister(int due, String method, int... rest) {
        for (int bad : BAD_REGISTERS) {
            keeps(due, method, joined(bad, rest));
        }
    }

    /** Every bad register in each of two places, beside good ones and bad ones. */
    void refusesTwoRegisters(int due, String method) {
        for (int bad : BAD_REGISTERS) {
            for (int good = 0; good < REGISTERS; good++) {
                keeps(due, method, bad, good);
                keeps(due, method, good, bad);
            }
            for (int other : BAD_REGISTERS) {
                keeps(due, method, bad, other);
            }
        }
    }

    static int[] joined(int first, int... rest) {
        int[] all = new int[rest.length + 1];
        all[0] = first;
        System.arraycopy(rest, 0, all, 1, rest.length);
        return all;
    }

    /** What a call answers; one that throws answers what no int is. */
    private static long answer(FactorField field, String name, int[] arguments) {
        Class<?>[] types = new Class<?>[arguments.length];
        Arrays.fill(types, int.class);
        Object[] values = Arrays.stream(arguments).boxed().toArray();
        try {
            Method method = FactorField.class.getMethod(name, types);
            return (Integer) method.invoke(field, values);
        } catch (InvocationTargetException thrown) {
            System.out.println(name + " threw " + thrown.getCause());
            return Long.MAX_VALUE;
        } catch (ReflectiveOperationException missing) {
            System.out.println("the test found no " + missing.getMessage());
            return Long.MIN_VALUE;
        }
    }
}
