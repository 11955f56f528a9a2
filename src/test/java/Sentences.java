import java.lang.reflect.InvocationTargetException;
import java.lang.reflect.Method;
import java.lang.reflect.Modifier;
import java.util.Arrays;
import java.util.Comparator;

/** Runs a class of tests: each static method without parameters and answer is one, so that none is forgotten. */
final class Sentences {
    private Sentences() {
    }

    static void test(Class<?> tests, Checks checks) {
        Method[] all = tests.getDeclaredMethods();
        Arrays.sort(all, Comparator.comparing(Method::getName));
        for (Method method : all) {
            if (isTest(method)) {
                run(method, checks);
            }
        }
        checks.finish();
    }

    private static boolean isTest(Method method) {
        return Modifier.isStatic(method.getModifiers()) && !method.isSynthetic()
                && method.getParameterCount() == 0 && method.getReturnType() == void.class;
    }

    private static void run(Method method, Checks checks) {
        checks.at(method.getName());
        int before = checks.seen();
        String end = "its end";
        try {
            method.setAccessible(true);
            method.invoke(null);
        } catch (InvocationTargetException thrown) {
            end = String.valueOf(thrown.getCause());
        } catch (IllegalAccessException thrown) {
            end = String.valueOf(thrown);
        }
        checks.due("the test", end, "its end");
        checks.judge(checks.seen() > before + 1, "the test", "nothing checked", "a check");
    }
}
