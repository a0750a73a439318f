import java.nio.file.Files;
import java.nio.file.Path;
import java.util.ArrayList;
import java.util.List;
import java.util.Map;
import java.util.TreeMap;
import java.util.regex.Matcher;
import java.util.regex.Pattern;
import java.util.stream.Stream;

/**
 * Every word of the promises and of "Terms" stands in a sentence that some test holds the class to, and every sentence
 * that a test names is the document's own.
 */
public final class SentencesTest {
    private static final Check CHECK = new Check();
    private static final Pattern SAID = Pattern.compile("\\.says\\((\\d+),\\s*((?:\"(?:[^\"\\\\]|\\\\.)*\"[\\s+]*)+)\\)");

    /** What the document says of each promise, and under 0 what it says ahead of them. */
    private final Map<Integer, String> texts = new TreeMap<>();
    private final Map<Integer, boolean[]> held = new TreeMap<>();

    public static void main(String[] args) throws Exception {
        Path root = Path.of(args.length > 0 ? args[0] : ".");
        SentencesTest test = new SentencesTest();
        test.readDocument(Files.readString(root.resolve("../shared/DOC.md")));
        List<Path> files = new ArrayList<>();
        try (Stream<Path> all = Files.list(root.resolve("src/test/java"))) {
            all.sorted().forEach(files::add);
        }
        for (Path file : files) {
            test.readTest(file.getFileName().toString(), Files.readString(file));
        }
        test.lookForWordsNotHeld();
        CHECK.end();
    }

    private static String plain(String text) {
        return text.replaceAll("\\s+", " ").trim();
    }

    private void readDocument(String document) {
        Matcher used = Pattern.compile("An object is used for .*").matcher(document);
        String ahead = used.find() ? used.group() : "";
        Matcher terms = Pattern.compile("(?s)## Terms\n(.*?)Ahead of the calls").matcher(document);
        if (terms.find()) {
            ahead += " " + terms.group(1).replace("```text", "").replace("```", "").replaceAll("==== \\d ", "");
        }
        texts.put(0, plain(ahead));
        Matcher promise = Pattern.compile("(?s)## Promise (\\d+): \\w[^\n]*\n+`[^`]*`: (.*?)\n\n").matcher(document);
        while (promise.find()) {
            texts.put(Integer.parseInt(promise.group(1)), plain(promise.group(2)));
        }
        CHECK.due("how many promises", texts.size() - 1, 35);
        texts.forEach((number, text) -> held.put(number, new boolean[text.length()]));
    }

    private void readTest(String file, String source) {
        Matcher said = SAID.matcher(source);
        while (said.find()) {
            int number = Integer.parseInt(said.group(1));
            String words = plain(said.group(2).trim().replaceAll("\"\\s*\\+\\s*\"", "").replaceAll("^\"|\"$", ""));
            int at = texts.getOrDefault(number, "").indexOf(words);
            CHECK.due(file + ": promise " + number + " says '" + words + "'", at >= 0 ? 1 : 0, 1);
            while (at >= 0) {
                java.util.Arrays.fill(held.get(number), at, at + words.length(), true);
                at = texts.get(number).indexOf(words, at + 1);
            }
        }
    }

    private void lookForWordsNotHeld() {
        texts.forEach((number, text) -> {
            StringBuilder left = new StringBuilder();
            for (int i = 0; i < text.length(); i++) {
                left.append(held.get(number)[i] ? ' ' : text.charAt(i));
            }
            String rest = left.toString().replaceAll("\\W+", " ").trim();
            CHECK.due("promise " + number + ": no test holds to '" + rest + "'; words left", rest.length(), 0);
        });
    }
}
