/** Promise 2. */
public final class SetTest {
    public static void main(String[] args) {
        for (long value : Checks.values()) {
            for (int r = 0; r < Checks.REGISTERS; r++) {
                HalfWords x = Checks.filled();
                long[] before = Checks.state(x);
                String call = "set(" + r + ", " + value + ")";
                Checks.due(call, x.set(r, value), true);
                Checks.changed(call, x, before, r, value);
            }
        }
        for (int r : Checks.NO_REGISTERS) {
            HalfWords x = Checks.filled();
            long[] before = Checks.state(x);
            String call = "set(" + r + ", 99)";
            Checks.due(call, x.set(r, 99L), false);
            Checks.unchanged(call, x, before);
        }
        Checks.end();
    }
}
