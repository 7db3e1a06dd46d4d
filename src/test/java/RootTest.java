/** Promise 8; OrderTest has what promise 12 adds. */
public final class RootTest {
    private static final long GREATEST = 3037000499L;

    public static void main(String[] args) {
        check(0, 1, 0L, 0L);
        check(0, 1, 1L, 1L);
        check(0, 1, 3L, 1L);
        check(0, 1, 4L, 2L);
        check(0, 1, Long.MAX_VALUE, GREATEST);
        for (long root = 1; root <= 1000; root++) {
            aroundSquare(root);
            aroundSquare(GREATEST - 1000 + root);
        }
        for (int bit = 1; bit <= 31; bit++) {
            aroundSquare((1L << bit) - 1);
            aroundSquare(1L << bit);
            aroundSquare((1L << bit) + 1);
        }
        for (long value : Checks.values()) {
            if (value >= 0) {
                check(4, 5, value, Checks.signed(value).sqrt().longValue());
            } else {
                refused(4, 5, value);
            }
        }
        eachChoiceOfRegisters();
        wrongInputs();
        Checks.end();
    }

    private static void aroundSquare(long root) {
        check(0, 1, root * root - 1, root - 1);
        check(0, 1, root * root, root);
        check(0, 1, root * root + 1, root);
    }

    private static void eachChoiceOfRegisters() {
        for (int d = 0; d < Checks.REGISTERS; d++) {
            for (int a = 0; a < Checks.REGISTERS; a++) {
                check(d, a, 1000001L, 1000L);
                refused(d, a, -1L);
                refused(d, a, Long.MIN_VALUE);
            }
        }
    }

    private static void wrongInputs() {
        for (int r : Checks.NO_REGISTERS) {
            bad(r, 0);
            bad(0, r);
            bad(r, r);
        }
    }

    private static void check(int d, int a, long value, long want) {
        HalfWords x = Checks.filled(a, value, a, value);
        long[] before = Checks.state(x);
        String call = "root(" + d + ", " + a + ") of " + value;
        Checks.due(call, x.root(d, a), 1);
        Checks.changed(call, x, before, d, want);
    }

    private static void refused(int d, int a, long value) {
        HalfWords x = Checks.filled(a, value, a, value);
        long[] before = Checks.state(x);
        String call = "root(" + d + ", " + a + ") of " + value;
        Checks.due(call, x.root(d, a), HalfWords.ZERO);
        Checks.unchanged(call, x, before);
    }

    private static void bad(int d, int a) {
        HalfWords x = Checks.filled();
        long[] before = Checks.state(x);
        String call = "root(" + d + ", " + a + ")";
        Checks.due(call, x.root(d, a), HalfWords.BAD);
        Checks.unchanged(call, x, before);
    }
}
