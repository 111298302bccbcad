/** Calls that only ask leave all as it was: the document tells no change that they make. */
public final class QuestionTest {
    private static final Due due = new Due();

    public static void main(String[] args) {
        whileOpen();
        whileClosed();
        due.end();
    }

    private static Run run() {
        return new Run(due, "Not promised", "Nothing is promised beyond the answers and state changes described above");
    }

    private static void whileOpen() {
        Run x = run();
        x.does("parent(1, 0)", "has(1, 12)", "trait(12, 13)", "flag(2)");
        ask(x);
    }

    private static void whileClosed() {
        Run x = run();
        x.does("parent(1, 0)", "has(1, 12)", "flag(2)", "close()", "function(1)", "function(2)");
        x.lays(0, 4, 3, false, "0 0 9");
        x.lays(0, 6, 1, false, "12");
        x.lays(0, 0, 1, true, "-1");
        x.makes(0, 3, 8, false, "1");
        x.lays(1, 5, 1, false, "-1", "0 3 4");
        x.tells(0, 0, 3);
        x.does("call(0)");
        x.tells(1, 1, 4);
        x.does("call(1)", "call(1)", "explain(1)");
        x.is("where()", 0);
        ask(x);
        x.does("explain(4)");
        ask(x);
    }

    private static void ask(Run x) {
        for (String numbers : new String[] {"0, 0", "1, 0", "0, 1", "-1, 3", "5, 7", "MAX, MIN"}) {
            for (String name : new String[] {"below", "of", "about", "dominates", "order", "applicable", "count", "hole"}) {
                x.asked(name + "(" + numbers + ")");
            }
            x.asked("doubt(" + numbers + ", 0)");
        }
        for (String number : new String[] {"0", "1", "7", "-1", "MAX"}) {
            x.asked("step(" + number + ")", "counter(" + number + ")", "most(" + number + ")", "covered(" + number + ")");
        }
        x.asked("samples()", "value()", "failure()", "where()");
    }
}
