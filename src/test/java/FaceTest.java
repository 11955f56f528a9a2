import java.io.IOException;
import java.nio.file.Files;
import java.nio.file.Paths;
import java.util.ArrayList;
import java.util.Collections;
import java.util.List;
import java.util.regex.Matcher;
import java.util.regex.Pattern;

/**
 * "The public face" and the headings of the promises, word for word: each signature with the names of its
 * parameters and its exceptions, and what the document says ahead of the calls.
 */
final class FaceTest {
    private static final Checks CHECKS = new Checks("FaceTest");

    public static void main(String[] args) throws IOException {
        String document = read("../shared/DOC.md");
        String source = read("src/main/java/BallotLoom.java");
        List<String> face = face(document);
        CHECKS.due("the class and 29 promises", face.size(), 1 + 29);
        CHECKS.due("what is public", sorted(publicOnes(source)), sorted(face));
        headings(document, face);
        ahead(document, source);
        firstLine(document, source);
        CHECKS.finish();
    }

    private static String read(String file) throws IOException {
        return new String(Files.readAllBytes(Paths.get(file)), "UTF-8");
    }

    private static List<String> all(String pattern, String text) {
        List<String> found = new ArrayList<>();
        Matcher matcher = Pattern.compile(pattern).matcher(text);
        while (matcher.find()) {
            found.add(matcher.group(1));
        }
        return found;
    }

    private static String sorted(List<String> lines) {
        List<String> order = new ArrayList<>(lines);
        Collections.sort(order);
        return String.join("\n", order);
    }

    private static List<String> face(String document) {
        String block = document.substring(document.indexOf("## The public face"), document.indexOf("## Terms"));
        return all("(?m)^ *(public [^;{]*?) ?[;{]$", block);
    }

    /** Without remarks and line ends: all that stands from the word public to the brace. */
    private static List<String> publicOnes(String source) {
        String code = source.replaceAll("(?s)/\\*.*?\\*/", "").replaceAll("//[^\n]*", "");
        return all("\\b(public [^;{]*?) [;{]", code.replaceAll("\\s+", " "));
    }

    private static void headings(String document, List<String> face) {
        List<String> signatures = all("(?m)^## Promise \\d+: .*\\n\\n`(.*?)`: ", document);
        CHECKS.due("promises", signatures.size(), 29);
        for (int k = 0; k < signatures.size(); k++) {
            String due = k + 1 < face.size() ? face.get(k + 1) : "none";
            CHECKS.due("promise " + (k + 1), "public " + signatures.get(k), due);
        }
    }

    /** Remarks of the source part its calls as the document does. */
    private static void ahead(String document, String source) {
        Matcher line = Pattern.compile("(?m)^Ahead of the calls (.*) the interface says: (---- .*)\\.$")
                .matcher(document);
        int lines = 0;
        while (line.find()) {
            int start = source.indexOf("    // " + line.group(2) + "\n");
            CHECKS.due(line.group(2) + " stands in the source", start >= 0, true);
            String part = source.substring(Math.max(start, 0) + 10);
            int end = part.indexOf("// ----");
            String calls = String.join(", ",
                    all("(?m)^    public \\w+ (\\w+)\\(", end < 0 ? part : part.substring(0, end)));
            CHECKS.due("calls behind " + line.group(2), calls, line.group(1).replace("`", ""));
            lines++;
        }
        CHECKS.due("parts of the face", lines, 3);
    }

    private static void firstLine(String document, String source) {
        String what = document.substring(document.indexOf("## What it is")).split("\n")[2];
        CHECKS.due("the class says what it is", source.startsWith("/** " + what + " */\n"), true);
    }
}
