/** Promise 9. */
public final class LeadingZerosTest {
    public static void main(String[] args) {
        Checks.sentence("The number of bits 0 above the highest bit 1 of register r", LeadingZerosTest::eachHighestBit);
        Checks.sentence("(64 for the value 0)", LeadingZerosTest::sixtyFourForZero);
        Checks.sentence("BAD for r outside 0..5.", LeadingZerosTest::badOutside);
        Checks.end();
    }

    private static void sixtyFourForZero() {
        for (int r = 0; r < Checks.REGISTERS; r++) {
            check(r, 0L, 64);
            check(r, 1L, 63);
            Checks.due("leadingZeros(" + r + ") of a new object", new HalfWords().leadingZeros(r), 64);
        }
    }

    private static void eachHighestBit() {
        for (int bit = 0; bit < 64; bit++) {
            check(2, 1L << bit, 63 - bit);
            check(2, -1L >>> (63 - bit), 63 - bit);
        }
        check(3, Long.MIN_VALUE, 0);
        check(4, Long.MAX_VALUE, 1);
        check(5, 0xFFFFFFFFL, 32);
        check(0, 0x100000000L, 31);
        for (long value : Checks.values()) {
            for (int r = 0; r < Checks.REGISTERS; r++) {
                check(r, value, 64 - Checks.unsigned(value).bitLength());
            }
        }
    }

    private static void badOutside() {
        for (int r : Checks.NO_REGISTERS) {
            HalfWords x = Checks.filled();
            long[] before = Checks.state(x);
            Checks.due("leadingZeros(" + r + ")", x.leadingZeros(r), HalfWords.BAD);
            Checks.unchanged("leadingZeros(" + r + ")", x, before);
        }
        check(0, 2L, 62);
        check(5, -1L, 0);
    }

    private static void check(int r, long value, int want) {
        HalfWords x = Checks.filled(r, value, r, value);
        long[] before = Checks.state(x);
        String call = "leadingZeros(" + r + ") of " + value;
        Checks.due(call, x.leadingZeros(r), want);
        Checks.unchanged(call, x, before);
    }
}
