import java.io.IOException;
import java.nio.file.Files;
import java.nio.file.Path;
import java.util.ArrayList;
import java.util.Arrays;
import java.util.List;
import java.util.regex.Matcher;
import java.util.regex.Pattern;

/**
 * 'The public face' of the document, line by line, beside that of LoopLane.java: the same constants
 * with the same values, the same constructor and methods, no others, in the same order; and what
 * 'the interface says' ahead of which calls.
 */
public final class FaceTest {
    private static final Pattern CALL = Pattern.compile("public (?:int|long) (\\w+)\\(");

    public static void main(String[] args) throws IOException {
        Path root = Path.of(args[0]);
        Path document = root.resolve("../shared/DOC.md");
        if (Files.isReadable(document)) {
            String said = Files.readString(document);
            String text = Files.readString(root.resolve("src/main/java/LoopLane.java"));
            theFaceIsTheSame(said, text);
            theHeadingsStandAheadOfTheirCalls(said, text);
        } else {
            System.out.println("there is no " + document + ": the face is not looked up");
        }
        Due.finish("FaceTest");
    }

    /** "The public face". */
    private static void theFaceIsTheSame(String said, String text) {
        List<String> due = publicLines(between(said, "```java\n", "```"));
        List<String> seen = publicLines(text);
        Due.due("lines of the document's face: the class, its constants, and one of each promise", due.size(), 1 + 11 + 38);
        Due.due("lines of the face", seen.size(), due.size());
        for (int i = 0; i < Math.min(due.size(), seen.size()); i++) {
            Due.same("line " + i + " of the face", seen.get(i), due.get(i));
        }
    }

    /** "Ahead of the calls .. the interface says: ----". */
    private static void theHeadingsStandAheadOfTheirCalls(String said, String text) {
        Matcher ahead = Pattern.compile("Ahead of the calls (.*) the interface says: (---- [a-z ]+)\\.").matcher(said);
        int headings = 0;
        while (ahead.find()) {
            headings++;
            String part = between(text, "// " + ahead.group(2) + "\n", "// ----");
            List<String> seen = new ArrayList<>();
            Matcher call = CALL.matcher(part);
            while (call.find()) {
                seen.add("`" + call.group(1) + "`");
            }
            Due.same("the calls under " + ahead.group(2), String.join(", ", seen), ahead.group(1));
        }
        Due.due("headings", headings, 5);
    }

    private static List<String> publicLines(String text) {
        List<String> lines = new ArrayList<>();
        for (String line : text.split("\n")) {
            if (line.trim().startsWith("public ")) {
                lines.add(line.trim().replaceFirst(" ?[{;]$", ""));
            }
        }
        return lines;
    }

    private static String between(String text, String begin, String end) {
        List<String> parts = Arrays.asList(text.split(Pattern.quote(begin), 2));
        Due.due("'" + begin.trim() + "' stands there", parts.size(), 2);
        return parts.get(parts.size() - 1).split(Pattern.quote(end), 2)[0];
    }
}
