import java.util.ArrayList;
import java.util.List;

/** Rows of calls that together show everything a board holds; each row is for a board of its own. */
final class Probes {
    private final int functions;
    private final int handlers;
    private final int samples;
    private final int room;
    private final List<List<String>> rows = new ArrayList<>();
    private List<String> row = new ArrayList<>();

    /** Room is how many calls the board still has to answer. */
    Probes(CallBoard like, int room) {
        functions = like.count(-1, 0);
        handlers = like.count(-1, 1);
        samples = like.samples();
        this.room = room;
        askAboutTable();
        askAboutHandlers();
        askAboutCalls();
        askAboutProofs();
        goOn();
        goOnWithFunctions();
        goOnWithHandlers();
    }

    List<List<String>> rows() {
        return rows;
    }

    private void ask(String... questions) {
        for (String question : questions) {
            if (row.size() >= room) {
                end();
            }
            if (room > 0) {
                row.add(question);
            }
        }
    }

    private void end() {
        if (!row.isEmpty()) {
            rows.add(row);
        }
        row = new ArrayList<>();
    }

    /** Calls that change the board, so they need one of their own; what has no room is left out. */
    private void goOn(String... calls) {
        end();
        for (String call : calls) {
            if (row.size() < room) {
                row.add(call);
            }
        }
        end();
    }

    private void askAboutTable() {
        for (int x = 0; x < 16; x++) {
            for (int y = 0; y < 16; y++) {
                ask("below(" + x + ", " + y + ")");
            }
        }
        ask("samples()");
        for (int s = 0; s <= samples; s++) {
            ask("of(" + s + ", 0)", "of(" + s + ", 1)");
        }
    }

    private void askAboutHandlers() {
        for (int h = 0; h <= handlers; h++) {
            for (int what = 0; what <= 10; what++) {
                ask("about(" + h + ", " + what + ")");
            }
        }
    }

    private void askAboutCalls() {
        ask("value()", "failure()", "where()");
        for (int k = 0; k < 16; k++) {
            ask("step(" + k + ")", "counter(" + k + ")");
        }
        for (int what = 0; what <= 4; what++) {
            for (int f = -1; f <= functions; f++) {
                ask("count(" + f + ", " + what + ")");
            }
        }
        for (int f = 0; f < functions; f++) {
            ask("most(" + f + ")");
            for (int k = 0; k < 8; k++) {
                ask("order(" + f + ", " + k + ")", "applicable(" + f + ", " + k + ")");
            }
        }
    }

    private void askAboutProofs() {
        for (int f = 0; f < functions; f++) {
            for (int what = 0; what < 6; what++) {
                ask("hole(" + f + ", " + what + ")", "doubt(" + f + ", 0, " + what + ")", "doubt(" + f + ", 1, " + what + ")");
            }
        }
    }

    /** An open table, what is full and what is told show only in what comes later. */
    private void goOn() {
        List<String> closing = new ArrayList<>();
        closing.add("close()");
        for (int c = 0; c < 12; c++) {
            closing.add("sample(" + c + ", 0)");
        }
        for (int x = 0; x < 16; x++) {
            for (int y = 0; y < 16; y++) {
                closing.add("below(" + x + ", " + y + ")");
            }
        }
        goOn(closing.toArray(new String[0]));
        goOn("trait(12, 13)", "has(0, 12)", "flag(0)", "parent(0, 1)");
        goOn("sample(11, 5)", "samples()");
        goOn("handler(0, 0, 0, false)", "count(-1, 1)");
        for (int places = 1; places <= 2; places++) {
            goOn("function(" + places + ")", "handler(" + functions + ", 1, 0, false)", "lay(" + handlers + ")",
                "call(" + functions + ")", "value()");
        }
    }

    private void goOnWithFunctions() {
        for (int f = 0; f < functions; f++) {
            goOn("call(" + f + ")", "value()", "failure()", "step(0)", "step(1)", "step(2)", "count(-1, 3)",
                "count(-1, 4)", "count(" + f + ", 3)", "count(" + f + ", 4)", "samples()");
            goOn("freeze(" + f + ", true)");
        }
    }

    private void goOnWithHandlers() {
        for (int h = 0; h < handlers; h++) {
            goOn("explain(" + h + ")", "where()");
            goOn("lay(" + h + ")", "about(" + h + ", 4)");
            goOn("lift(" + h + ")", "about(" + h + ", 4)");
        }
    }
}
