import java.io.IOException;
import java.nio.file.Files;
import java.nio.file.Path;
import java.util.Arrays;
import java.util.Set;
import java.util.TreeSet;
import java.util.regex.Matcher;
import java.util.regex.Pattern;

/** README.md: its examples are answered as it says, and it tells of the class in the words of the document. */
public final class ReadmeTest extends Boundaries {
    private static final Path README = Path.of("README.md");
    private static final Path DOCUMENT = Path.of("../shared/DOC.md");
    private static final Pattern EXAMPLE = Pattern.compile("(?s)```java\n(.*?)```");
    private static final Pattern MADE = Pattern.compile("GllRecogniser g = new GllRecogniser\\(\\);.*");
    private static final Pattern CALL = Pattern.compile("g\\.(\\w+)\\(([-0-9, ]*)\\); +// (-?\\d+)(: .*)?");
    private static final Pattern SIGNATURE = Pattern.compile("public int (\\w+)\\(");

    public static void main(String[] args) throws IOException {
        String readme = Files.readString(README);
        String document = Files.readString(DOCUMENT);
        examples(readme, document);
        wordsOfTheDocument(readme, document);
        finish();
    }

    private static void examples(String readme, String document) {
        Set<String> shown = new TreeSet<>();
        Matcher example = EXAMPLE.matcher(readme);
        while (example.find()) {
            String[] lines = example.group(1).split("\n");
            check(MADE.matcher(lines[0]).matches(), "an example does not begin with a new object: " + lines[0]);
            GllRecogniser g = new GllRecogniser();
            for (int k = 1; k < lines.length; k++) {
                shown.add(exampleLine(g, lines[k]));
            }
        }
        Matcher signature = SIGNATURE.matcher(document);
        while (signature.find()) {
            check(shown.contains(signature.group(1)), "no example calls " + signature.group(1));
        }
    }

    private static String exampleLine(GllRecogniser g, String line) {
        Matcher call = CALL.matcher(line);
        if (!call.matches()) {
            check(false, "an example has a line without a call and its answer: " + line);
            return "";
        }
        int[] arguments = Arrays.stream(call.group(2).split(",")).map(String::trim)
            .filter(argument -> !argument.isEmpty()).mapToInt(Integer::parseInt).toArray();
        due("README.md: " + line, call(g, call.group(1), arguments), Integer.parseInt(call.group(3)));
        return call.group(1);
    }

    /** Line breaks are free; headings and the listing of the face are left out. */
    private static void wordsOfTheDocument(String readme, String document) {
        String words = onOneLine(readme);
        String told = document.substring(document.indexOf("## What it is"), document.indexOf("## Not promised"));
        int paragraphs = 0;
        for (String paragraph : told.split("\n\n+")) {
            if (!paragraph.startsWith("#") && !paragraph.startsWith("```")) {
                check(words.contains(onOneLine(paragraph)), "README.md does not say: " + paragraph);
                paragraphs++;
            }
        }
        check(paragraphs >= 18, "only " + paragraphs + " paragraphs of the document were found");
    }

    private static String onOneLine(String text) {
        return text.trim().replaceAll("\\s+", " ");
    }
}
