import java.lang.reflect.InvocationTargetException;
import java.lang.reflect.Method;
import java.lang.reflect.Modifier;
import java.util.Arrays;
import java.util.Comparator;

/** Runs a test whose cases are its own methods without arguments, so that none of them can be forgotten. */
final class Cases {
    private Cases() {
    }

    static void run(Class<?> test) throws IllegalAccessException {
        Method[] methods = test.getDeclaredMethods();
        Arrays.sort(methods, Comparator.comparing(Method::getName));
        int cases = 0;
        for (Method method : methods) {
            if (isCase(method)) {
                run(method);
                cases++;
            }
        }
        Due.at("");
        Due.is("is there a case in " + test.getName() + "? That", cases > 0 ? 1 : 0, 1);
        System.out.print(cases + " cases, ");
        Due.end();
    }

    private static boolean isCase(Method method) {
        return !method.isSynthetic() && Modifier.isStatic(method.getModifiers()) && method.getParameterCount() == 0
                && method.getReturnType() == void.class;
    }

    private static void run(Method method) throws IllegalAccessException {
        Due.at(method.getDeclaringClass().getName() + "." + method.getName());
        method.setAccessible(true);
        try {
            method.invoke(null);
        } catch (InvocationTargetException thrown) {
            Due.fail("a call threw " + thrown.getCause());
        }
    }
}
