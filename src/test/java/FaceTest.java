import java.lang.reflect.Constructor;
import java.lang.reflect.Field;
import java.lang.reflect.Method;
import java.lang.reflect.Modifier;
import java.util.TreeMap;

/** The class has the public members of the document and hides all others. */
public final class FaceTest {
    private static final String[] METHODS = {
        "prime/0", "load/2", "code/1", "degree/1", "add/2", "subtract/2", "multiply/2", "divide/3",
        "divisor/2", "derive/1", "valueAt/2", "roots/1", "irreducible/1", "factors/1", "factor/2",
        "multiplicity/2", "greatest/1", "squareFree/1", "radical/1", "irreducibles/1", "nextIrreducible/1"
    };

    public static void main(String[] args) {
        int modifiers = FactorField.class.getModifiers();
        Check.due("public and final", modifiers, Modifier.PUBLIC | Modifier.FINAL);
        Check.due("nested classes", FactorField.class.getDeclaredClasses().length, 0);
        constructor();
        methods();
        fields();
        Check.finish();
    }

    private static void constructor() {
        Constructor<?>[] found = FactorField.class.getDeclaredConstructors();
        Check.due("constructors", found.length, 1);
        Check.due(found[0] + " is public", found[0].getModifiers(), Modifier.PUBLIC);
        Check.due(found[0] + " takes one int", allInts(found[0].getParameterTypes(), 1) ? 1 : 0, 1);
    }

    private static void methods() {
        TreeMap<String, Integer> wanted = new TreeMap<>();
        for (String method : METHODS) {
            wanted.put(method, 0);
        }
        for (Method method : FactorField.class.getDeclaredMethods()) {
            int count = method.getParameterCount();
            String name = method.getName() + "/" + count;
            if (Modifier.isPrivate(method.getModifiers())) {
                Check.due(name + ", private, has a public name", hasPublicName(method) ? 1 : 0, 0);
                continue;
            }
            Check.due(name + " is in the document", wanted.containsKey(name) ? 1 : 0, 1);
            Check.due(name + " is public", method.getModifiers(), Modifier.PUBLIC);
            Check.due(name + " takes ints", allInts(method.getParameterTypes(), count) ? 1 : 0, 1);
            Check.due(name + " answers an int", method.getReturnType() == int.class ? 1 : 0, 1);
            wanted.merge(name, 1, Integer::sum);
        }
        for (String method : METHODS) {
            Check.due("methods " + method, wanted.get(method), 1);
        }
    }

    private static void fields() {
        for (Field field : FactorField.class.getDeclaredFields()) {
            Check.due(field + " is private", Modifier.isPrivate(field.getModifiers()) ? 1 : 0, 1);
        }
    }

    private static boolean hasPublicName(Method method) {
        for (String wanted : METHODS) {
            if (wanted.startsWith(method.getName() + "/")) {
                return true;
            }
        }
        return false;
    }

    private static boolean allInts(Class<?>[] types, int count) {
        for (Class<?> type : types) {
            if (type != int.class) {
                return false;
            }
        }
        return types.length == count;
    }
}
