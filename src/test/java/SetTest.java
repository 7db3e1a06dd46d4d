/** Promise 2. */
public final class SetTest {
    public static void main(String[] args) {
        Checks.sentence("Sets a register.", SetTest::setsEachRegister);
        Checks.sentence("r outside 0..5: refused, answers false. Else true.", SetTest::refusedOutside);
        Checks.end();
    }

    private static void setsEachRegister() {
        for (long value : Checks.values()) {
            for (int r = 0; r < Checks.REGISTERS; r++) {
                accepted(r, value);
            }
        }
    }

    private static void refusedOutside() {
        for (int r : Checks.NO_REGISTERS) {
            refused(r, 99L);
            refused(r, 0L);
            refused(r, Long.MIN_VALUE);
        }
        for (int r = 0; r < Checks.REGISTERS; r++) {
            accepted(r, 99L);
            accepted(r, 0L);
            accepted(r, Long.MIN_VALUE);
            accepted(r, Long.MAX_VALUE);
        }
    }

    private static void accepted(int r, long value) {
        HalfWords x = Checks.filled();
        long[] before = Checks.state(x);
        String call = "set(" + r + ", " + value + ")";
        Checks.due(call, x.set(r, value), true);
        Checks.changed(call, x, before, r, value);
    }

    private static void refused(int r, long value) {
        HalfWords x = Checks.filled();
        long[] before = Checks.state(x);
        String call = "set(" + r + ", " + value + ")";
        Checks.due(call, x.set(r, value), false);
        Checks.unchanged(call, x, before);
    }
}
