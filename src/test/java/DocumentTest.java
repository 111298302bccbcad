import java.io.IOException;
import java.lang.reflect.Constructor;
import java.lang.reflect.Field;
import java.lang.reflect.Method;
import java.lang.reflect.Modifier;
import java.nio.file.Files;
import java.nio.file.Path;
import java.util.ArrayList;
import java.util.Arrays;
import java.util.List;
import java.util.TreeSet;
import java.util.regex.Matcher;
import java.util.regex.Pattern;

/** The face is the one that the document tells, and each of its sentences is quoted by a test. */
public final class DocumentTest {
    private static final Path TESTS = Path.of("src/test/java");
    private static final String TEXT = "\"((?:[^\"\\\\]|\\\\.)*)\"";
    private static final int PROMISES = 34;

    private final Due due = new Due();
    private final String tests;

    private DocumentTest() throws IOException {
        StringBuilder all = new StringBuilder();
        try (var files = Files.list(TESTS)) {
            for (Path file : new TreeSet<>(files.toList())) {
                all.append(Files.readString(file));
            }
        }
        // Texts that are put together from several lines count as one.
        tests = all.toString().replaceAll("\"\\s*\\+\\s*\"", "");
    }

    public static void main(String[] args) throws IOException, IllegalAccessException {
        DocumentTest test = new DocumentTest();
        if (!Document.isMissing()) {
            test.face();
            test.terms();
            for (int number = 1; number <= PROMISES; number++) {
                test.promise(number);
            }
            test.due.is("there are no more promises", Document.part("Promise " + (PROMISES + 1)), "");
        }
        test.due.end();
    }

    // ---- the face

    private void face() throws IllegalAccessException {
        TreeSet<String> told = new TreeSet<>();
        for (String line : Document.part("The public face").lines().toList()) {
            if (line.startsWith("    public ")) {
                // Names of parameters can't be seen from outside.
                told.add(line.trim().replace(" static final", "").replaceAll("(\\w+) \\w+(?=[,)])", "$1").replace(";", ""));
            }
        }
        due.is("the public face", writtenFace().toString(), told.toString());
    }

    private static TreeSet<String> writtenFace() throws IllegalAccessException {
        TreeSet<String> found = new TreeSet<>();
        for (Constructor<?> made : CallBoard.class.getConstructors()) {
            found.add("public CallBoard(" + typesOf(made.getParameterTypes()) + ")");
        }
        for (Method method : CallBoard.class.getDeclaredMethods()) {
            if (Modifier.isPublic(method.getModifiers())) {
                found.add("public " + method.getReturnType() + " " + method.getName() + "(" + typesOf(method.getParameterTypes()) + ")");
            }
        }
        for (Field field : CallBoard.class.getFields()) {
            found.add("public " + field.getType() + " " + field.getName() + " = " + field.get(null));
        }
        return found;
    }

    private static String typesOf(Class<?>[] types) {
        List<String> names = new ArrayList<>();
        for (Class<?> type : types) {
            names.add(type.toString());
        }
        return String.join(", ", names);
    }

    // ---- the sentences

    private void promise(int number) {
        String name = "Promise " + number;
        // What the call is named and takes is the face's, up to the colon behind it.
        String text = Document.onOneLine(Document.part(name)).replaceFirst("^.*?`[^`]*`: ", "");
        due.is(name + " stands in the document", text.isEmpty(), false);
        quoted(name, text, textsBehind("\\bpromise\\(" + number + ",\\s*" + TEXT));
    }

    private void terms() {
        String text = Document.onOneLine(Document.part("Terms").replaceAll("```(text)?", "")).replaceFirst("Ahead of the calls .*", "");
        List<String> quotes = new ArrayList<>();
        for (String quote : textsBehind(TEXT)) {
            // Short texts stand there by chance.
            if (quote.contains(" ") && quote.length() > 12) {
                quotes.add(quote);
            }
        }
        quoted("Terms", text, quotes);
    }

    private List<String> textsBehind(String pattern) {
        List<String> found = new ArrayList<>();
        Matcher matcher = Pattern.compile(pattern).matcher(tests);
        while (matcher.find()) {
            found.add(matcher.group(1));
        }
        return found;
    }

    /** Words that are left when all quotes are taken away have no test; titles and signs aren't words. */
    private void quoted(String name, String text, List<String> quotes) {
        char[] left = text.toCharArray();
        for (String quote : quotes) {
            for (int at = text.indexOf(quote); at >= 0; at = text.indexOf(quote, at + 1)) {
                Arrays.fill(left, at, at + quote.length(), '\n');
            }
        }
        String words = new String(left).replaceAll("CODES:|CALLS\\.|The constants:|[\\s.,:;()0-9]+", " ");
        due.is("words of " + name + " that no test quotes", words.trim(), "");
    }
}
