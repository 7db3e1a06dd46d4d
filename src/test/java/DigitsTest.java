/** Promise 6. */
public final class DigitsTest {
    public static void main(String[] args) {
        check(0, 0L, 1);
        check(1, 9L, 1);
        check(2, -9L, 1);
        check(3, 10L, 2);
        check(4, -10L, 2);
        check(5, 999999999999999999L, 18);
        check(0, -1000000000000000000L, 19);
        check(1, Long.MAX_VALUE, 19);
        check(2, Long.MIN_VALUE, 19);
        for (long value : Checks.values()) {
            for (int r = 0; r < Checks.REGISTERS; r++) {
                check(r, value, Checks.signed(value).abs().toString().length());
            }
        }
        for (int r : Checks.NO_REGISTERS) {
            HalfWords x = Checks.filled();
            long[] before = Checks.state(x);
            Checks.due("digits(" + r + ")", x.digits(r), HalfWords.BAD);
            Checks.unchanged("digits(" + r + ")", x, before);
        }
        Checks.end();
    }

    private static void check(int r, long value, int want) {
        HalfWords x = Checks.filled(r, value, r, value);
        long[] before = Checks.state(x);
        String call = "digits(" + r + ") of " + value;
        Checks.due(call, x.digits(r), want);
        Checks.unchanged(call, x, before);
    }
}
