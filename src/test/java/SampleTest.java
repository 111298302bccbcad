/** Promises 8 to 10: samples. */
public final class SampleTest {
    private static final Due due = new Due();

    public static void main(String[] args) {
        ordinary();
        full();
        due.end();
    }

    private static void ordinary() {
        CallBoard x = new CallBoard();
        x.flag(3);
        due.is("sample(0, 1) while open", x.sample(0, 1), CallBoard.STATE);
        due.is("sample(3, 1) while open", x.sample(3, 1), CallBoard.STATE);
        due.is("sample(12, 1) while open", x.sample(12, 1), CallBoard.NUMBER);
        x.close();
        due.is("sample(0, MIN)", x.sample(0, Due.MIN), 0);
        due.is("sample(11, MAX)", x.sample(11, Due.MAX), 1);
        due.is("sample(0, -1)", x.sample(0, -1), 2);
        due.is("sample(3, 1)", x.sample(3, 1), CallBoard.ABSTRACT);
        due.is("sample(-1, 1)", x.sample(-1, 1), CallBoard.NUMBER);
        due.is("sample(12, 1)", x.sample(12, 1), CallBoard.NUMBER);
        due.is("samples()", x.samples(), 3);
        due.is("of(0, 0)", x.of(0, 0), 0);
        due.is("of(0, 1)", x.of(0, 1), Due.MIN);
        due.is("of(1, 0)", x.of(1, 0), 11);
        due.is("of(1, 1)", x.of(1, 1), Due.MAX);
        due.is("of(2, 1)", x.of(2, 1), -1);
        due.is("of(1, 2)", x.of(1, 2), -1);
        due.is("of(1, -1)", x.of(1, -1), -1);
        due.is("of(3, 0)", x.of(3, 0), -1);
        due.is("of(-1, 0)", x.of(-1, 0), -1);
        due.is("of(300, 0)", x.of(300, 0), -1);
        due.is("of(MAX, 1)", x.of(Due.MAX, 1), -1);
        due.is("of(MIN, 1)", x.of(Due.MIN, 1), -1);
    }

    private static void full() {
        CallBoard x = new CallBoard();
        x.flag(3);
        x.close();
        for (int i = 0; i < 300; i++) {
            due.is("sample " + i, x.sample(i % 3, i), i);
        }
        due.is("sample(0, 1) of 300", x.sample(0, 1), CallBoard.FULL);
        due.is("sample(3, 1) of 300", x.sample(3, 1), CallBoard.ABSTRACT);
        due.is("sample(12, 1) of 300", x.sample(12, 1), CallBoard.NUMBER);
        due.is("samples()", x.samples(), 300);
        due.is("of(299, 0)", x.of(299, 0), 2);
        due.is("of(299, 1)", x.of(299, 1), 299);
        due.is("of(300, 1)", x.of(300, 1), -1);
    }
}
