import java.io.IOException;
import java.nio.file.Files;
import java.nio.file.Path;
import java.util.regex.Matcher;
import java.util.regex.Pattern;

/** The example of README.md: each of its lines is called, and answers what it says behind it. */
public final class ReadmeTest {
    private static final Check CHECK = new Check("ReadmeTest");
    private static final Pattern LINE = Pattern.compile("book\\.(\\w+)\\(([-\\d, ]*)\\); +// (true|false|-?\\d+)(:.*)?");
    private static final Pattern MADE = Pattern.compile("PuzzleBook book = new PuzzleBook\\((\\d+)\\);");

    public static void main(String[] args) throws IOException, ReflectiveOperationException {
        String project = args.length == 0 ? "." : args[0];
        PuzzleBook book = null;
        boolean inExample = false;
        for (String line : Files.readAllLines(Path.of(project, "README.md"))) {
            Matcher made = MADE.matcher(line);
            Matcher call = LINE.matcher(line);
            if (line.startsWith("```")) {
                inExample = line.equals("```java");
            } else if (inExample && made.matches()) {
                book = new PuzzleBook(Integer.parseInt(made.group(1)));
            } else if (inExample && book != null && call.matches()) {
                dueCall(book, line, call);
            } else if (inExample) {
                CHECK.tell("no call with its answer: " + line);
            }
        }
        CHECK.due("there is an example", book != null, true);
        CHECK.end();
    }

    private static void dueCall(PuzzleBook book, String line, Matcher call) throws ReflectiveOperationException {
        String[] words = call.group(2).isEmpty() ? new String[0] : call.group(2).split(", ");
        Class<?>[] types = new Class<?>[words.length];
        Object[] values = new Object[words.length];
        for (int n = 0; n < words.length; n++) {
            types[n] = int.class;
            values[n] = Integer.valueOf(words[n]);
        }
        String got = PuzzleBook.class.getMethod(call.group(1), types).invoke(book, values).toString();
        CHECK.due(line + " (answered " + got + ")", got.equals(call.group(3)), true);
    }
}
