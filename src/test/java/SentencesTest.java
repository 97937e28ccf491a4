import java.io.IOException;
import java.nio.file.DirectoryStream;
import java.nio.file.Files;
import java.nio.file.Path;
import java.util.ArrayList;
import java.util.Arrays;
import java.util.LinkedHashMap;
import java.util.List;
import java.util.Map;
import java.util.TreeSet;
import java.util.regex.Matcher;
import java.util.regex.Pattern;

/**
 * Holds the tests of single sentences against the document: every sentence that a test names stands
 * there, no word of the promises and the terms is without a test, and every such test is run.
 */
public final class SentencesTest {
    /** A test: its name, then as its first line where its sentence stands, and its words. */
    private static final Pattern TEST = Pattern.compile(
            "private static void (\\w+)\\(\\) \\{\\s*sentence\\(\"([^\"]*)\", \"([^\"]*)\"\\);");

    private record Quote(String of, String words) {
    }

    public static void main(String[] args) throws IOException {
        Path root = Path.of(args[0]);
        List<Quote> quotes = new ArrayList<>();
        for (Path file : sources(root.resolve("src/test/java"))) {
            quotes.addAll(testsOf(file.getFileName().toString(), Files.readString(file)));
        }
        Path document = root.resolve("../shared/DOC.md");
        if (Files.isReadable(document)) {
            hold(quotes, sections(plain(Files.readString(document))));
        } else {
            System.out.println("there is no " + document + ": the sentences are not looked up");
        }
        Due.finish("SentencesTest");
    }

    private static TreeSet<Path> sources(Path folder) throws IOException {
        TreeSet<Path> found = new TreeSet<>();
        try (DirectoryStream<Path> files = Files.newDirectoryStream(folder, "{Terms,Promises}*Test.java")) {
            files.forEach(found::add);
        }
        return found;
    }

    private static List<Quote> testsOf(String name, String text) {
        List<Quote> quotes = new ArrayList<>();
        Matcher test = TEST.matcher(text);
        while (test.find()) {
            quotes.add(new Quote(test.group(2), test.group(3)));
            Due.holds(name + " runs " + test.group(1), text.contains("\n        " + test.group(1) + "();\n"));
        }
        Due.due(name + ": sentences that are the first line of a test", quotes.size(), text.split("\\bsentence\\(").length - 1);
        return quotes;
    }

    private static String plain(String text) {
        return text.replaceAll("```(text|java)?", " ").replaceAll("\\s+", " ");
    }

    private static String between(String text, String begin, String end) {
        int from = text.indexOf(begin);
        int to = text.indexOf(end, Math.max(0, from));
        Due.holds("the document has '" + begin + "' and behind it '" + end + "'", from >= 0 && to >= 0);
        return from < 0 || to < 0 ? "" : text.substring(from + begin.length(), to);
    }

    private static Map<String, String> sections(String text) {
        Map<String, String> sections = new LinkedHashMap<>();
        sections.put("What it is", between(text, "==== 1 ", "## The public face"));
        sections.put("Terms 1", between(text, "## Terms ", "==== 2 "));
        for (int n = 2; n <= 4; n++) {
            sections.put("Terms " + n, between(text, "==== " + n + " ", "==== " + (n + 1) + " "));
        }
        sections.put("Terms 5", between(text, "==== 5 ", "The constants: "));
        sections.put("Constants", "The constants: " + between(text, "The constants: ", "Ahead of the calls"));
        for (int n = 1; n <= 38; n++) {
            String end = n < 38 ? "## Promise " + (n + 1) + ": " : "## Not promised";
            String section = between(text, "## Promise " + n + ": ", end);
            sections.put("Promise " + n, section.replaceFirst("^[^`]*`[^`]*`: ", ""));
        }
        return sections;
    }

    private static void hold(List<Quote> quotes, Map<String, String> sections) {
        for (Quote quote : quotes) {
            String section = sections.getOrDefault(quote.of(), "");
            Due.holds(quote.of() + " has the words \"" + quote.words() + "\"", section.contains(quote.words()));
        }
        for (String of : sections.keySet()) {
            String left = untested(of, sections.get(of), quotes);
            Due.holds(of + " has no words without a test: \"" + left + "\"", left.isEmpty());
        }
    }

    /** The section without all that its tests name. */
    private static String untested(String of, String section, List<Quote> quotes) {
        char[] left = section.toCharArray();
        for (Quote quote : quotes) {
            int length = quote.words().length();
            int at = quote.of().equals(of) ? section.indexOf(quote.words()) : -1;
            while (at >= 0) {
                Arrays.fill(left, at, at + length, ' ');
                at = section.indexOf(quote.words(), at + length);
            }
        }
        return new String(left).trim();
    }
}
