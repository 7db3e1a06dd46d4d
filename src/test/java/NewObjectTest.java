/** Promise 1. */
public final class NewObjectTest {
    public static void main(String[] args) {
        Checks.sentence("All registers are 0.", NewObjectTest::allZero);
        Checks.end();
    }

    private static void allZero() {
        HalfWords first = new HalfWords();
        Checks.unchanged("new HalfWords()", first, new long[Checks.REGISTERS]);
        for (int r = 0; r < Checks.REGISTERS; r++) {
            Checks.due("digits(" + r + ") of a new object", new HalfWords().digits(r), 1);
            Checks.due("leadingZeros(" + r + ") of a new object", new HalfWords().leadingZeros(r), 64);
            first.set(r, -1L - r);
        }
        HalfWords second = new HalfWords();
        Checks.unchanged("new HalfWords() beside a used one", second, new long[Checks.REGISTERS]);
        second.set(0, 5L);
        Checks.due("get(0) of the first object", first.get(0), -1L);
    }
}
