/** The edges of promises 8 to 10 and of what the terms say of samples: a method for each sentence. */
public final class SampleEdgeTest {
    private static final Due due = new Due();
    private static final String[] NO_CLASSES = {"-1", "12", "15", "16", "32", "MIN", "MAX"};

    public static void main(String[] args) {
        sampleNumbers();
        sampleNumber();
        sampleWhileOpen();
        sampleAbstract();
        sampleFull();
        sampleRefusalsInOrder();
        ofSample();
        ofNone();
        ofAnotherWhat();
        ofFull();
        samplesCounted();
        classesAndWeights();
        due.end();
    }

    private static void fill(Run x, int from) {
        for (int s = from; s < 300; s++) {
            x.is("sample(" + s % 2 + ", " + s + ")", s);
        }
    }

    private static void sampleNumbers() {
        Run x = due.term("SAMPLES are numbered from 0 on as they come (300 at most)");
        x.does("close()");
        fill(x, 0);
        x.is("sample(0, 0)", CallBoard.FULL);
        x.is("samples()", 300);
        x.is("of(299, 1)", 299);
        x.is("of(0, 1)", 0);
    }

    private static void sampleNumber() {
        Run x = due.promise(8, "A SAMPLE comes: its number. NUMBER: c isn't 0 .. 11");
        x.does("close()");
        x.is("sample(0, 3)", 0);
        x.is("sample(11, 4)", 1);
        for (String c : NO_CLASSES) {
            x.refused("sample(" + c + ", 3)", CallBoard.NUMBER);
        }
        x.is("sample(0, 5)", 2);
    }

    private static void sampleWhileOpen() {
        Run x = due.promise(8, "STATE: THE TABLE is open");
        x.refused("sample(0, 3)", CallBoard.STATE);
        x.refused("sample(11, 3)", CallBoard.STATE);
        x.does("parent(0, 0)");
        x.is("close()", CallBoard.LOOP);
        x.refused("sample(0, 3)", CallBoard.STATE);
        x.does("parent(0, -1)", "close()");
        x.is("sample(0, 3)", 0);
    }

    private static void sampleAbstract() {
        Run x = due.promise(8, "STATE: THE TABLE is open; ABSTRACT; FULL.");
        x.does("parent(1, 0)", "parent(2, 1)", "flag(1)", "flag(11)", "close()");
        x.refused("sample(1, 3)", CallBoard.ABSTRACT);
        x.refused("sample(11, MIN)", CallBoard.ABSTRACT);
        x.is("sample(0, 3)", 0);
        x.is("sample(2, 3)", 1);
        x.is("sample(10, 3)", 2);
    }

    private static void sampleFull() {
        Run x = due.promise(8, "ABSTRACT; FULL.");
        x.does("close()");
        fill(x, 0);
        x.refused("sample(0, 7)", CallBoard.FULL);
        x.refused("sample(11, MAX)", CallBoard.FULL);
        x.all(300, "samples()");
    }

    private static void sampleRefusalsInOrder() {
        Run x = due.term("Of several refusals that a call names the first one named is answered.");
        x.does("flag(5)");
        x.is("sample(12, 0)", CallBoard.NUMBER);
        x.is("sample(-1, 0)", CallBoard.NUMBER);
        x.is("sample(5, 0)", CallBoard.STATE);
        x.does("close()");
        x.is("sample(5, 0)", CallBoard.ABSTRACT);
        fill(x, 0);
        x.is("sample(0, 0)", CallBoard.FULL);
        x.is("sample(5, 0)", CallBoard.ABSTRACT);
        x.is("sample(12, 0)", CallBoard.NUMBER);
        x.is("sample(-1, 0)", CallBoard.NUMBER);
    }

    private static void ofSample() {
        Run x = due.promise(9, "Of a SAMPLE: what = 0 its CLASS, 1 its WEIGHT");
        x.does("close()", "sample(11, MIN)", "sample(0, MAX)", "sample(3, -1)", "sample(4, 0)");
        int[] classes = {11, 0, 3, 4};
        int[] weights = {Due.MIN, Due.MAX, -1, 0};
        for (int s = 0; s < 4; s++) {
            x.is("of(" + s + ", 0)", classes[s]);
            x.is("of(" + s + ", 1)", weights[s]);
        }
    }

    private static void ofNone() {
        Run x = due.promise(9, "-1 if there is none such, or another what.");
        x.all(-1, "of(0, 0)", "of(0, 1)", "of(-1, 0)");
        x.does("close()", "sample(7, 70)", "sample(8, 80)");
        x.is("of(1, 0)", 8);
        for (String s : new String[] {"-1", "2", "3", "299", "300", "301", "MIN", "MAX"}) {
            x.is("of(" + s + ", 0)", -1);
            x.is("of(" + s + ", 1)", -1);
        }
    }

    private static void ofAnotherWhat() {
        Run x = due.promise(9, "or another what.");
        x.does("close()", "sample(7, 70)");
        x.is("of(0, 0)", 7);
        x.is("of(0, 1)", 70);
        for (String what : new String[] {"-1", "2", "3", "MIN", "MAX"}) {
            x.is("of(0, " + what + ")", -1);
        }
    }

    private static void ofFull() {
        Run x = due.promise(9, "-1 if there is none such");
        x.does("close()");
        fill(x, 0);
        x.is("of(299, 0)", 1);
        x.all(-1, "of(300, 0)", "of(300, 1)", "of(301, 0)", "of(-1, 1)", "of(299, 2)");
    }

    private static void samplesCounted() {
        Run x = due.promise(10, "How many SAMPLES there are.");
        x.is("samples()", 0);
        x.is("sample(0, 0)", CallBoard.STATE);
        x.is("samples()", 0);
        x.does("flag(1)", "close()", "sample(0, 0)");
        x.is("samples()", 1);
        x.all(CallBoard.ABSTRACT, "sample(1, 0)");
        x.all(CallBoard.NUMBER, "sample(12, 0)");
        x.is("samples()", 1);
        x.does("function(1)");
        x.lays(0, 5, 1, false, "-1");
        x.does("arg(0, 0)");
        x.is("call(0)", 0);
        x.is("samples()", 2);
        for (int s = 2; s < 299; s++) {
            x.does("sample(0, 0)");
        }
        x.is("samples()", 299);
        x.does("sample(0, 0)");
        x.is("samples()", 300);
        x.is("sample(0, 0)", CallBoard.FULL);
        x.is("call(0)", 3);
        x.is("samples()", 300);
    }

    private static void classesAndWeights() {
        Run x = due.term("each has a CLASS that isn't ABSTRACT and a WEIGHT (an int).");
        for (int c = 0; c < 12; c += 2) {
            x.does("flag(" + c + ")");
        }
        x.does("close()");
        for (int c = 0; c < 12; c++) {
            x.is("sample(" + c + ", MIN)", c % 2 == 0 ? CallBoard.ABSTRACT : c / 2);
        }
        x.is("of(5, 0)", 11);
        x.is("of(5, 1)", Due.MIN);
        x.is("samples()", 6);
    }
}
