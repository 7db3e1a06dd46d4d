import java.math.BigInteger;

/** Promise 5. */
public final class TypeDigitTest {
    private static final int[] NO_DIGITS = {-1, 10, 11, -9, 16, 256, Integer.MIN_VALUE, Integer.MAX_VALUE};

    public static void main(String[] args) {
        Checks.sentence("Register d becomes 10 times its value plus digit", TypeDigitTest::manyNumbers);
        Checks.sentence("10 times its value plus digit, wrapping", TypeDigitTest::wrapping);
        Checks.sentence("d outside 0..5 or digit outside 0..9: BAD.", TypeDigitTest::badOutside);
        Checks.sentence("Else answers 1.", TypeDigitTest::eachChoice);
        Checks.end();
    }

    private static void manyNumbers() {
        for (long value : Checks.values()) {
            for (int digit = 0; digit <= 9; digit++) {
                BigInteger exact = Checks.signed(value).multiply(BigInteger.TEN).add(BigInteger.valueOf(digit));
                check(digit % Checks.REGISTERS, value, digit, exact.longValue());
            }
        }
    }

    private static void eachChoice() {
        for (int d = 0; d < Checks.REGISTERS; d++) {
            for (int digit = 0; digit <= 9; digit++) {
                check(d, 123L, digit, 1230L + digit);
            }
        }
    }

    private static void wrapping() {
        typed("0007", 7L);
        typed("9223372036854775807", Long.MAX_VALUE);
        typed("9223372036854775808", Long.MIN_VALUE);
        typed("18446744073709551615", -1L);
        typed("18446744073709551616", 0L);
        for (int d = 0; d < Checks.REGISTERS; d++) {
            check(d, 0L, 0, 0L);
            check(d, 12L, 3, 123L);
            // The digit is added to a negative number too, towards 0.
            check(d, -12L, 3, -117L);
            check(d, -1L, 9, -1L);
            check(d, 922337203685477580L, 7, Long.MAX_VALUE);
            check(d, 922337203685477580L, 8, Long.MIN_VALUE);
            check(d, -922337203685477580L, 0, -9223372036854775800L);
            check(d, -922337203685477581L, 0, 9223372036854775806L);
            check(d, Long.MAX_VALUE, 9, -1L);
            check(d, Long.MIN_VALUE, 9, 9L);
        }
    }

    private static void badOutside() {
        for (int r = 0; r < Checks.REGISTERS; r++) {
            for (int digit : NO_DIGITS) {
                bad(r, digit);
            }
            check(r, 1L, 0, 10L);
            check(r, 1L, 9, 19L);
        }
        for (int r : Checks.NO_REGISTERS) {
            for (int digit = 0; digit <= 9; digit++) {
                bad(r, digit);
            }
            bad(r, 10);
            bad(r, -1);
        }
    }

    private static void typed(String text, long want) {
        HalfWords x = new HalfWords();
        for (char c : text.toCharArray()) {
            Checks.due("typeDigit(4, " + c + ")", x.typeDigit(4, c - '0'), 1);
        }
        Checks.changed("typing " + text, x, new long[Checks.REGISTERS], 4, want);
    }

    private static void check(int d, long value, int digit, long want) {
        HalfWords x = Checks.filled(d, value, d, value);
        long[] before = Checks.state(x);
        String call = "typeDigit(" + d + ", " + digit + ") at " + value;
        Checks.due(call, x.typeDigit(d, digit), 1);
        Checks.changed(call, x, before, d, want);
    }

    private static void bad(int d, int digit) {
        HalfWords x = Checks.filled();
        long[] before = Checks.state(x);
        String call = "typeDigit(" + d + ", " + digit + ")";
        Checks.due(call, x.typeDigit(d, digit), HalfWords.BAD);
        Checks.unchanged(call, x, before);
    }
}
