/** Promise 6. */
public final class DigitsTest {
    public static void main(String[] args) {
        Checks.sentence("The number of decimal digits of register r's value", DigitsTest::manyNumbers);
        Checks.sentence("(1 for 0)", DigitsTest::oneForZero);
        Checks.sentence("without its sign", DigitsTest::withoutSign);
        Checks.sentence("BAD for r outside 0..5.", DigitsTest::badOutside);
        Checks.end();
    }

    private static void manyNumbers() {
        for (long value : Checks.values()) {
            for (int r = 0; r < Checks.REGISTERS; r++) {
                check(r, value, Checks.signed(value).abs().toString().length());
            }
        }
    }

    private static void oneForZero() {
        for (int r = 0; r < Checks.REGISTERS; r++) {
            check(r, 0L, 1);
            Checks.due("digits(" + r + ") of a new object", new HalfWords().digits(r), 1);
        }
    }

    private static void withoutSign() {
        bothSigns(1L, 1);
        bothSigns(9L, 1);
        bothSigns(10L, 2);
        bothSigns(99L, 2);
        bothSigns(100L, 3);
        bothSigns(4294967295L, 10);
        bothSigns(9999999999L, 10);
        bothSigns(10000000000L, 11);
        bothSigns(999999999999999999L, 18);
        bothSigns(1000000000000000000L, 19);
        bothSigns(Long.MAX_VALUE, 19);
        check(2, Long.MIN_VALUE, 19);
    }

    private static void bothSigns(long value, int want) {
        check(3, value, want);
        check(4, -value, want);
    }

    private static void badOutside() {
        for (int r : Checks.NO_REGISTERS) {
            HalfWords x = Checks.filled();
            long[] before = Checks.state(x);
            Checks.due("digits(" + r + ")", x.digits(r), HalfWords.BAD);
            Checks.unchanged("digits(" + r + ")", x, before);
        }
        check(0, 12L, 2);
        check(5, 123L, 3);
    }

    private static void check(int r, long value, int want) {
        HalfWords x = Checks.filled(r, value, r, value);
        long[] before = Checks.state(x);
        String call = "digits(" + r + ") of " + value;
        Checks.due(call, x.digits(r), want);
        Checks.unchanged(call, x, before);
    }
}
