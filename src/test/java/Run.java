import java.util.ArrayList;
import java.util.List;

/**
 * A run of calls on a new board for one sentence of the document. It can be played again on other boards,
 * so it can tell whether a call left anything behind.
 */
final class Run {
    /** What a board answers to later calls is free. */
    static final int MOST_CALLS = 512;

    private final Due due;
    private final String sentence;
    private final List<Call> calls = new ArrayList<>();
    private final CallBoard board = new CallBoard();

    Run(Due due, String part, String words) {
        this.due = due;
        sentence = part + ", \"" + words + "\": ";
        due.is(sentence + "stands in the document", Document.says(part, words), true);
    }

    private Run(Run other) {
        due = other.due;
        sentence = other.sentence;
        for (Call call : other.calls) {
            play(call);
        }
    }

    /** Another run that has come as far as this one. */
    Run again() {
        return new Run(this);
    }

    /** Calls none of which may be refused. */
    void does(String... texts) {
        for (String text : texts) {
            long got = play(Call.read(text));
            due.is(sentence + text + " isn't refused", got >= 0, true);
        }
    }

    void is(String text, long want) {
        due.is(sentence + text, play(Call.read(text)), want);
    }

    void is(String text, boolean want) {
        is(text, want ? 1 : 0);
    }

    /** The same answer is due of several calls. */
    void all(long want, String... texts) {
        for (String text : texts) {
            is(text, want);
        }
    }

    /** A refused call, behind which all is as it was. */
    void refused(String text, long want) {
        List<Call> before = new ArrayList<>(calls);
        is(text, want);
        compare(before, text);
    }

    /** Questions, behind which all is as it was, whatever they answer. */
    void asked(String... texts) {
        List<Call> before = new ArrayList<>(calls);
        for (String text : texts) {
            play(Call.read(text));
        }
        compare(before, texts[0]);
    }

    private void compare(List<Call> before, String text) {
        Probes probes = new Probes(playAll(before), MOST_CALLS - calls.size());
        for (List<String> probe : probes.rows()) {
            CallBoard without = playAll(before);
            CallBoard with = playAll(calls);
            for (String question : probe) {
                long want = Call.read(question).on(without);
                due.is(sentence + question + " behind " + text, Call.read(question).on(with), want);
            }
        }
    }

    /** A handler comes, its codes and ranges are told ("code low high" for each place), and it is laid. */
    int lays(int f, int action, int value, boolean around, String... places) {
        int h = makes(f, action, value, around, places);
        is("lay(" + h + ")", 1);
        return h;
    }

    /** As lays, but the handler is still in the making. */
    int makes(int f, int action, int value, boolean around, String... places) {
        int h = (int) play(Call.read("handler(" + f + ", " + action + ", " + value + ", " + around + ")"));
        due.is(sentence + "a handler comes", h >= 0, true);
        for (int i = 0; i < places.length; i++) {
            String[] parts = places[i].split(" ");
            is("place(" + h + ", " + i + ", " + parts[0] + ")", 1);
            if (parts.length > 1) {
                is("test(" + h + ", " + i + ", " + parts[1] + ", " + parts[2] + ")", 1);
            }
        }
        return h;
    }

    /** A sample comes and is told at a place; answers its number. */
    int tells(int i, int c, int weight) {
        int s = (int) play(Call.read("sample(" + c + ", " + weight + ")"));
        is("arg(" + i + ", " + s + ")", 1);
        return s;
    }

    int callCount() {
        return calls.size();
    }

    private long play(Call call) {
        if (calls.size() >= MOST_CALLS) {
            throw new IllegalStateException(sentence + "the test asks more than a board has to answer");
        }
        calls.add(call);
        return call.on(board);
    }

    static CallBoard playAll(List<Call> calls) {
        CallBoard fresh = new CallBoard();
        for (Call call : calls) {
            call.on(fresh);
        }
        return fresh;
    }
}
