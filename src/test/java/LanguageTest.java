import java.io.IOException;
import java.lang.reflect.Constructor;
import java.lang.reflect.Executable;
import java.lang.reflect.Field;
import java.lang.reflect.Method;
import java.lang.reflect.Modifier;
import java.nio.file.Files;
import java.nio.file.Paths;
import java.util.ArrayList;
import java.util.Arrays;
import java.util.List;
import java.util.TreeSet;
import java.util.regex.Matcher;
import java.util.regex.Pattern;

/** The face that the document gives, and the rules of LANGUAGE.md that can be seen in the source. */
final class LanguageTest {
    private static final Checks CHECKS = new Checks("LanguageTest");

    private static final String[] FACE = {
        "int candidate(int)", "int withdraw(int)", "int district(int)", "int cast(int, int, int)",
        "int recount(int, int)", "int move(int, int)", "int threshold(int)", "boolean seal(boolean)",
        "int knock()", "int ofStack(int, int)", "int firsts(int, int)", "double points(int, int)",
        "int pair(int, int, int, boolean)", "int winner(int, int)", "int out(int, int)",
        "int elected(int, int)", "double worth(int)", "int ofParty(int, int)", "int share(int, int, int)",
        "int overhang(int, int)", "int swings(int, int, int)", "int coalition(int, int)",
        "double gap(int, int)", "int many(int)", "int margin(int)", "int wouldWin(int, int, int)",
        "int lie(int, int)", "long digest()"};

    private static final List<String> CONSTANTS = Arrays.asList("int", "long", "boolean", "char", "String");

    /** What the rules leave out, by the sign that it would show. */
    private static final String[] BARRED = {
        "\\bimport\\b", "\\bpackage\\b", "->", "::", "\\bsynchronized\\b", "\\bassert\\b", "\\bfinally\\b",
        "\\bcatch\\b", "Exact\\s*\\(", "\\bMath\\.(floor|ceil|round|rint|random|sqrt|pow)\\b",
        "\\bSystem\\.(?!arraycopy)", "\\bThread\\b", "\\bObject\\b", "\\bhashCode\\b",
        "\\bclass\\s+\\w+Exception\\b", "\\bNaN\\b", "\\bstatic\\s*\\{", "\"\\s*\\+|\\+\\s*\""};

    public static void main(String[] args) throws IOException {
        face();
        members(BallotLoom.class);
        for (Class<?> inside : BallotLoom.class.getDeclaredClasses()) {
            CHECKS.due(inside + " is static", Modifier.isStatic(inside.getModifiers()), true);
            CHECKS.due(inside + " is not public", Modifier.isPublic(inside.getModifiers()), false);
            members(inside);
        }
        CHECKS.due("some twelve classes at most", BallotLoom.class.getDeclaredClasses().length <= 11, true);
        source(new String(Files.readAllBytes(Paths.get("src/main/java/BallotLoom.java")), "ISO-8859-1"));
        CHECKS.finish();
    }

    private static void face() {
        TreeSet<String> found = new TreeSet<>();
        for (Method method : BallotLoom.class.getDeclaredMethods()) {
            if (!Modifier.isPrivate(method.getModifiers())) {
                String all = Arrays.toString(method.getParameterTypes());
                found.add(method.getReturnType() + " " + method.getName()
                        + "(" + all.substring(1, all.length() - 1) + ")");
            }
        }
        CHECKS.due("the methods of the face", found.toString(), new TreeSet<>(Arrays.asList(FACE)).toString());
        Constructor<?>[] all = BallotLoom.class.getDeclaredConstructors();
        CHECKS.due("constructors", all.length, 1);
        CHECKS.due("the constructor is public", Modifier.isPublic(all[0].getModifiers()), true);
        CHECKS.due("the class is public and final",
                BallotLoom.class.getModifiers() == (Modifier.PUBLIC | Modifier.FINAL), true);
    }

    private static void members(Class<?> owner) {
        int fields = 0;
        for (Field field : owner.getDeclaredFields()) {
            int is = field.getModifiers();
            if (Modifier.isStatic(is)) {
                CHECKS.due(field + " is final", Modifier.isFinal(is), true);
                CHECKS.due(field + " is a constant of a type that rule 5 has",
                        CONSTANTS.contains(field.getType().getSimpleName()), true);
            } else {
                fields++;
            }
            if (owner == BallotLoom.class) {
                CHECKS.due(field + " is private", Modifier.isPrivate(is), true);
            }
        }
        CHECKS.due(owner + " has some twenty fields at most", fields <= 20, true);
        List<Executable> all = new ArrayList<>(Arrays.asList(owner.getDeclaredMethods()));
        all.addAll(Arrays.asList(owner.getDeclaredConstructors()));
        for (Executable each : all) {
            CHECKS.due(each + " has at most 7 parameters", each.getParameterCount() <= 7, true);
            boolean isHidden = owner != BallotLoom.class || Modifier.isPrivate(each.getModifiers());
            CHECKS.due(each + " bears no name of the face",
                    isHidden && Arrays.stream(FACE).anyMatch(f -> f.contains(" " + each.getName() + "(")), false);
        }
    }

    private static void source(String source) {
        CHECKS.due("signs of 1 to 127 alone", source.chars().allMatch(sign -> sign > 0 && sign < 128), true);
        String code = source.replaceAll("(?s)/\\*.*?\\*/", "").replaceAll("//[^\n]*", "");
        for (String barred : BARRED) {
            CHECKS.due("the code is free of " + barred, Pattern.compile(barred).matcher(code).find(), false);
        }
        Matcher thrown = Pattern.compile("\\bthrow\\b[^;]*;").matcher(code);
        while (thrown.find()) {
            boolean isPlain = thrown.group().matches("throw new "
                    + "(IllegalStateException|IllegalArgumentException|IndexOutOfBoundsException)\\(\"[^\"]*\"\\);");
            CHECKS.due(thrown.group() + " is a plain throw", isPlain, true);
        }
        long longest = 0;
        for (String method : code.split("\n    (    )?}\n")) {
            longest = Math.max(longest, method.chars().filter(sign -> sign == '\n').count());
        }
        CHECKS.due("methods of some sixty lines at most (" + longest + ")", longest <= 60, true);
    }
}
