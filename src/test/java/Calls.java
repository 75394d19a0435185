import java.lang.reflect.InvocationTargetException;
import java.lang.reflect.Method;
import java.lang.reflect.Modifier;
import java.util.ArrayList;
import java.util.Arrays;
import java.util.List;
import java.util.Map;
import java.util.NoSuchElementException;
import java.util.TreeMap;

/** The public calls of a class by their names, so that runs of them can be written, drawn and repeated. */
final class Calls {
    /** Told in place of an answer: the call throws IndexOutOfBoundsException, NoSuchElementException. */
    static final long INDEX = 1000001;
    static final long ELEMENT = 1000002;
    /** As many calls as an object is used for. */
    static final int MOST = 512;

    private final Map<String, Method> methods = new TreeMap<>();

    Calls(Class<?> face) {
        for (Method m : face.getDeclaredMethods()) {
            if (Modifier.isPublic(m.getModifiers())) {
                methods.put(m.getName(), m);
            }
        }
    }

    List<String> names() {
        return new ArrayList<>(methods.keySet());
    }

    int arity(String name) {
        return methods.get(name).getParameterCount();
    }

    /** A boolean counts 1 or 0. Whatever else is thrown, a class below those two included, ends the test. */
    long ask(Object on, String name, int... args) {
        Method method = methods.get(name);
        if (method == null || method.getParameterCount() != args.length) {
            throw new IllegalStateException("no such call: " + name + Arrays.toString(args));
        }
        Object[] boxed = new Object[args.length];
        for (int k = 0; k < args.length; k++) {
            boxed[k] = args[k];
        }
        try {
            Object got = method.invoke(on, boxed);
            return got instanceof Boolean ? ((Boolean) got ? 1 : 0) : (Integer) got;
        } catch (InvocationTargetException e) {
            if (e.getCause().getClass() == IndexOutOfBoundsException.class) {
                return INDEX;
            }
            if (e.getCause().getClass() == NoSuchElementException.class) {
                return ELEMENT;
            }
            throw new IllegalStateException(name + Arrays.toString(args) + " throws", e.getCause());
        } catch (IllegalAccessException e) {
            throw new IllegalStateException(e);
        }
    }
}
