import java.io.IOException;
import java.nio.file.Files;
import java.nio.file.Path;
import java.util.regex.Matcher;
import java.util.regex.Pattern;

/** Plays the example of README.md: each call must answer what stands behind it. */
public final class ReadmeTest {
    private static final Pattern LINE = Pattern.compile("board\\.(\\w+\\(.*\\)); *// (-?\\d+|true|false)(:.*)?");

    public static void main(String[] args) throws IOException {
        Due due = new Due();
        CallBoard board = new CallBoard();
        int played = 0;
        for (String line : Files.readAllLines(Path.of("README.md"))) {
            if (line.equals("CallBoard board = new CallBoard();")) {
                board = new CallBoard();
            } else if (line.startsWith("board.")) {
                Matcher matcher = LINE.matcher(line);
                boolean told = matcher.matches();
                due.is(line + ": a call and its answer", told, true);
                if (told) {
                    due.is(line, Call.read(matcher.group(1)).on(board), answer(matcher.group(2)));
                    played++;
                }
            }
        }
        due.is("the example has calls", played > 20, true);
        due.end();
    }

    private static long answer(String text) {
        return text.equals("true") ? 1 : text.equals("false") ? 0 : Long.parseLong(text);
    }
}
