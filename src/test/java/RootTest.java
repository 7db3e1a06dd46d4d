/** Promise 8; OrderTest has what promise 12 adds. */
public final class RootTest {
    private static final long GREATEST = 3037000499L;

    public static void main(String[] args) {
        Checks.sentence("Register d becomes the greatest whole number whose square is at most the value of register a "
            + "(taken as signed).", RootTest::greatestWholeNumber);
        Checks.sentence("d or a outside 0..5: BAD", RootTest::badOutside);
        Checks.sentence("register a is negative: ZERO, and nothing changes.", RootTest::zeroIfNegative);
        Checks.sentence("Else answers 1.", RootTest::eachChoiceOfRegisters);
        Checks.end();
    }

    private static void eachChoiceOfRegisters() {
        for (int d = 0; d < Checks.REGISTERS; d++) {
            for (int a = 0; a < Checks.REGISTERS; a++) {
                check(d, a, 1000001L, 1000L);
                check(d, a, 0L, 0L);
                check(d, a, Long.MAX_VALUE, GREATEST);
            }
        }
    }

    private static void greatestWholeNumber() {
        check(0, 1, 0L, 0L);
        check(0, 1, 1L, 1L);
        check(0, 1, 3L, 1L);
        check(0, 1, 4L, 2L);
        check(0, 1, 9223372030926249000L, GREATEST - 1);
        check(0, 1, 9223372030926249001L, GREATEST);
        check(0, 1, Long.MAX_VALUE, GREATEST);
        for (long root = 1; root <= 1000; root++) {
            aroundSquare(root);
            aroundSquare(GREATEST - 1000 + root);
        }
        for (int bit = 1; bit <= 31; bit++) {
            aroundSquare((1L << bit) - 1);
            aroundSquare(1L << bit);
            aroundSquare((1L << bit) + 1);
        }
        check(3, 3, 99L, 9L);
        for (long value : Checks.values()) {
            if (value >= 0) {
                check(4, 5, value, Checks.signed(value).sqrt().longValue());
            }
        }
    }

    private static void aroundSquare(long root) {
        check(0, 1, root * root - 1, root - 1);
        check(0, 1, root * root, root);
        check(0, 1, root * root + 1, root);
    }

    private static void badOutside() {
        for (int r : Checks.NO_REGISTERS) {
            for (int other = 0; other < Checks.REGISTERS; other++) {
                bad(r, other);
                bad(other, r);
            }
            bad(r, r);
        }
        check(0, 5, 16L, 4L);
        check(5, 0, 16L, 4L);
    }

    private static void zeroIfNegative() {
        for (int d = 0; d < Checks.REGISTERS; d++) {
            for (int a = 0; a < Checks.REGISTERS; a++) {
                refused(d, a, -1L);
                refused(d, a, -4L);
                refused(d, a, -0x100000000L);
                refused(d, a, Long.MIN_VALUE);
                check(d, a, 0L, 0L);
            }
        }
        for (long value : Checks.values()) {
            if (value < 0) {
                refused(4, 5, value);
            }
        }
    }

    private static void check(int d, int a, long value, long want) {
        HalfWords x = Checks.filled(a, value, a, value);
        long[] before = Checks.state(x);
        String call = "root(" + d + ", " + a + ") of " + value;
        Checks.due(call, x.root(d, a), 1);
        Checks.changed(call, x, before, d, want);
    }

    private static void refused(int d, int a, long value) {
        HalfWords x = Checks.filled(a, value, a, value);
        long[] before = Checks.state(x);
        String call = "root(" + d + ", " + a + ") of " + value;
        Checks.due(call, x.root(d, a), HalfWords.ZERO);
        Checks.unchanged(call, x, before);
    }

    private static void bad(int d, int a) {
        HalfWords x = Checks.filled();
        long[] before = Checks.state(x);
        String call = "root(" + d + ", " + a + ")";
        Checks.due(call, x.root(d, a), HalfWords.BAD);
        Checks.unchanged(call, x, before);
    }
}
