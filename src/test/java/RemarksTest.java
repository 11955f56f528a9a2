import java.io.IOException;
import java.nio.file.DirectoryStream;
import java.nio.file.Files;
import java.nio.file.Path;
import java.nio.file.Paths;
import java.util.LinkedHashMap;
import java.util.Map;
import java.util.regex.Matcher;
import java.util.regex.Pattern;

/**
 * Each test of the bounds quotes in its remark the sentence that it holds; here the quotes are looked up in the
 * document, and what no test quotes is told, so that no sentence of it goes without a test.
 */
final class RemarksTest {
    private static final Checks CHECKS = new Checks("RemarksTest");

    private static final Pattern TEST = Pattern.compile("(?s)(?:/\\*\\*((?:(?!\\*/).)*)\\*/\\s*)?"
            + "private static void (\\w+)\\(\\)");
    private static final Pattern REMARK = Pattern.compile("(What it is|Terms|Section \\d|Promise \\d+): (\".*)");
    private static final Pattern QUOTE = Pattern.compile("\"([^\"]*)\"");

    /** The places of the document by the name that remarks give them; what is quoted there is blotted out. */
    private static final Map<String, StringBuilder> PLACES = new LinkedHashMap<>();
    private static final Map<String, String> WORDS = new LinkedHashMap<>();

    /** No bound is named in these: the title's line, what there is in all, and where the calls stand (FaceTest). */
    private static final String[] OVERVIEWS = {
        "(?m)^One heap of ballots, counted in many ways\\.$", "(?m)^Its calls: .*$",
        "(?m)^Ahead of the calls .* the interface says: ---- what is (told|asked)\\.$",
        "(?m)^Ahead of the calls .* the interface says: ----"};

    public static void main(String[] args) throws IOException {
        readDocument(new String(Files.readAllBytes(Paths.get("../shared/DOC.md")), "UTF-8"));
        try (DirectoryStream<Path> files = Files.newDirectoryStream(Paths.get("src/test/java"), "*BoundsTest.java")) {
            for (Path file : files) {
                readTests(file.getFileName().toString(), new String(Files.readAllBytes(file), "US-ASCII"));
            }
        }
        CHECKS.due("places of the document", PLACES.size(), 2 + 5 + 29);
        for (Map.Entry<String, StringBuilder> place : PLACES.entrySet()) {
            String left = place.getValue().toString().replaceAll("[\\s.,;:-]+", " ").trim();
            CHECKS.due(place.getKey() + ", words that no test quotes", left, "");
        }
        CHECKS.finish();
    }

    private static void readDocument(String document) {
        String text = document.replace("`", "");
        for (String overview : OVERVIEWS) {
            text = text.replaceAll(overview, "");
        }
        place("What it is", between(text, "## What it is\n", "## The public face"));
        String terms = between(text, "## Terms\n", "## Promise 1:");
        place("Terms", between(terms, "", "== 1. ") + terms.substring(terms.indexOf("\nA method that throws")));
        String sections = terms.substring(0, terms.indexOf("\nA method that throws")) + "== 6. ";
        for (int k = 1; k <= 5; k++) {
            String from = "== " + k + ". ";
            String section = between(sections, from, "== " + (k + 1) + ". ");
            place("Section " + k, section.substring(section.indexOf('\n')).replaceAll("(?m)^text$", ""));
        }
        String promises = "## Promise 1:" + between(text, "## Promise 1:", "## Not promised") + "## Promise 30:";
        for (int k = 1; k <= 29; k++) {
            String promise = between(promises, "## Promise " + k + ":", "## Promise " + (k + 1) + ":");
            String heading = promise.substring(0, promise.indexOf('\n'));
            // Behind the heading the call is told with its brackets and exceptions, and a colon ends it.
            String body = promise.substring(heading.length());
            place("Promise " + k, body.substring(body.indexOf(": ") + 2));
        }
    }

    private static String between(String text, String from, String to) {
        int start = text.indexOf(from) + from.length();
        return text.substring(start, text.indexOf(to, start));
    }

    private static void place(String name, String words) {
        String plain = words.replaceAll("\\s+", " ").trim();
        WORDS.put(name, plain);
        PLACES.put(name, new StringBuilder(plain));
    }

    private static void readTests(String file, String source) {
        Matcher test = TEST.matcher(source);
        while (test.find()) {
            CHECKS.at(file + ", " + test.group(2));
            String words = test.group(1) == null ? "" : test.group(1).replaceAll("\\s*\n\\s*\\*?\\s*", " ");
            Matcher remark = REMARK.matcher(words);
            boolean isThere = remark.find();
            CHECKS.due("a remark that quotes the document", isThere, true);
            if (isThere) {
                blot(remark.group(1), remark.group(2));
            }
        }
        CHECKS.at("");
    }

    private static void blot(String name, String quotes) {
        Matcher quote = QUOTE.matcher(quotes);
        while (quote.find()) {
            String words = quote.group(1);
            String place = WORDS.getOrDefault(name, "");
            int at = place.indexOf(words);
            CHECKS.judge(at >= 0, name + " quoted", words, "words that stand there");
            for (; at >= 0; at = place.indexOf(words, at + 1)) {
                for (int k = at; k < at + words.length(); k++) {
                    PLACES.get(name).setCharAt(k, ' ');
                }
            }
        }
    }
}
