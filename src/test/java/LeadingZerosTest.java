/** Promise 9. */
public final class LeadingZerosTest {
    public static void main(String[] args) {
        check(0, 0L, 64);
        check(1, 1L, 63);
        check(2, -1L, 0);
        check(3, Long.MIN_VALUE, 0);
        check(4, Long.MAX_VALUE, 1);
        check(5, 0xFFFFFFFFL, 32);
        check(0, 0x100000000L, 31);
        for (long value : Checks.values()) {
            for (int r = 0; r < Checks.REGISTERS; r++) {
                check(r, value, 64 - Checks.unsigned(value).bitLength());
            }
        }
        for (int r : Checks.NO_REGISTERS) {
            HalfWords x = Checks.filled();
            long[] before = Checks.state(x);
            Checks.due("leadingZeros(" + r + ")", x.leadingZeros(r), HalfWords.BAD);
            Checks.unchanged("leadingZeros(" + r + ")", x, before);
        }
        Checks.end();
    }

    private static void check(int r, long value, int want) {
        HalfWords x = Checks.filled(r, value, r, value);
        long[] before = Checks.state(x);
        String call = "leadingZeros(" + r + ") of " + value;
        Checks.due(call, x.leadingZeros(r), want);
        Checks.unchanged(call, x, before);
    }
}
