import java.lang.reflect.InvocationTargetException;
import java.lang.reflect.Method;
import java.lang.reflect.Modifier;
import java.util.TreeMap;

/** Runs each test of a class by itself and names those that fail: its methods whose names begin with "promise". */
final class Each {
    private Each() {
    }

    static TreeMap<String, Method> of(Class<?> tests) {
        TreeMap<String, Method> all = new TreeMap<>();
        for (Method m : tests.getDeclaredMethods()) {
            if (m.getName().startsWith("promise") && Modifier.isStatic(m.getModifiers()) && m.getParameterCount() == 0) {
                all.put(m.getName(), m);
            }
        }
        return all;
    }

    static void run(Class<?> tests) {
        for (Method m : of(tests).values()) {
            int before = Due.wrong();
            try {
                m.setAccessible(true);
                m.invoke(null);
            } catch (InvocationTargetException e) {
                Due.isTrue("an exception: " + e.getCause(), false);
            } catch (IllegalAccessException e) {
                Due.isTrue("not to be called: " + e, false);
            }
            if (Due.wrong() > before) {
                System.out.println("FAILED  " + tests.getName() + "." + m.getName());
            }
        }
        Due.end();
    }
}
