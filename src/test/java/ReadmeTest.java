import java.io.IOException;
import java.lang.reflect.InvocationTargetException;
import java.lang.reflect.Method;
import java.nio.file.Files;
import java.nio.file.Paths;
import java.util.HashMap;
import java.util.Map;
import java.util.TreeSet;
import java.util.regex.Matcher;
import java.util.regex.Pattern;

/** The calls of README.md are made in their order, and each must answer what stands behind it. */
final class ReadmeTest {
    private static final Checks CHECKS = new Checks("ReadmeTest");

    private static final String MAKING = "BallotLoom loom = new BallotLoom();";
    private static final Pattern CALL = Pattern.compile("(?:(\\w+) (\\w+) = )?loom\\.(\\w+)\\((.*?)\\);"
            + " +// (throws \\w+|\\S*[^\\s:])(?:: .+)?");

    private static final Map<String, Integer> NUMBERS = new HashMap<>();
    private static final TreeSet<String> ASKED = new TreeSet<>();
    private static BallotLoom loom;

    public static void main(String[] args) throws IOException {
        String readme = new String(Files.readAllBytes(Paths.get("README.md")), "US-ASCII");
        Matcher block = Pattern.compile("(?s)```java\n(.*?)```").matcher(readme);
        while (block.find()) {
            for (String line : block.group(1).split("\n")) {
                if (!line.isEmpty()) {
                    read(line);
                }
            }
        }
        TreeSet<String> face = new TreeSet<>();
        for (Method method : BallotLoom.class.getMethods()) {
            if (method.getDeclaringClass() == BallotLoom.class) {
                face.add(method.getName());
            }
        }
        CHECKS.due("calls that the example makes", ASKED.toString(), face.toString());
        CHECKS.finish();
    }

    private static void read(String line) {
        if (line.equals(MAKING)) {
            CHECKS.due(line + " comes first", loom == null, true);
            loom = new BallotLoom();
            return;
        }
        Matcher call = CALL.matcher(line);
        boolean isCall = call.matches() && loom != null;
        CHECKS.due(line + " is a call with its answer", isCall, true);
        if (isCall) {
            make(line, call);
        }
    }

    private static void make(String line, Matcher call) {
        Method method = named(call.group(3));
        if (method == null) {
            CHECKS.due(line, "no such call", call.group(5));
            return;
        }
        ASKED.add(method.getName());
        Object answer = answer(method, call.group(4));
        CHECKS.due(line, String.valueOf(answer), call.group(5));
        if (call.group(1) != null) {
            CHECKS.due(line + ", its type", call.group(1), method.getReturnType().getName());
            if (answer instanceof Integer) {
                NUMBERS.put(call.group(2), (Integer) answer);
            }
        }
    }

    private static Method named(String name) {
        for (Method method : BallotLoom.class.getMethods()) {
            if (method.getName().equals(name) && method.getDeclaringClass() == BallotLoom.class) {
                return method;
            }
        }
        return null;
    }

    private static Object answer(Method method, String arguments) {
        String[] words = arguments.isEmpty() ? new String[0] : arguments.split(", ");
        Object[] values = new Object[words.length];
        for (int k = 0; k < words.length; k++) {
            values[k] = value(words[k]);
        }
        try {
            return method.invoke(loom, values);
        } catch (InvocationTargetException thrown) {
            return "throws " + thrown.getCause().getClass().getSimpleName();
        } catch (IllegalAccessException | IllegalArgumentException thrown) {
            return "no such arguments";
        }
    }

    private static Object value(String word) {
        if (word.equals("true") || word.equals("false")) {
            return word.equals("true");
        }
        return word.matches("-?\\d+") ? (Object) Integer.valueOf(word) : NUMBERS.get(word);
    }
}
