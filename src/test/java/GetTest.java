/** Promise 3. */
public final class GetTest {
    public static void main(String[] args) {
        HalfWords x = new HalfWords();
        for (int r = 0; r < Checks.REGISTERS; r++) {
            x.set(r, Long.MIN_VALUE + r);
        }
        for (int r = 0; r < Checks.REGISTERS; r++) {
            Checks.due("get(" + r + ")", x.get(r), Long.MIN_VALUE + r);
            Checks.due("get(" + r + ") again", x.get(r), Long.MIN_VALUE + r);
        }
        for (int r : Checks.NO_REGISTERS) {
            Checks.due("get(" + r + ")", x.get(r), 0L);
        }
        Checks.end();
    }
}
