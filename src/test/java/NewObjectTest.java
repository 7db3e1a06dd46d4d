/** Promise 1. */
public final class NewObjectTest {
    public static void main(String[] args) {
        HalfWords first = new HalfWords();
        Checks.unchanged("new HalfWords()", first, new long[Checks.REGISTERS]);
        for (int r = 0; r < Checks.REGISTERS; r++) {
            first.set(r, -1L - r);
        }
        HalfWords second = new HalfWords();
        Checks.unchanged("new HalfWords() beside a used one", second, new long[Checks.REGISTERS]);
        second.set(0, 5L);
        Checks.due("get(0) of the first object", first.get(0), -1L);
        Checks.end();
    }
}
