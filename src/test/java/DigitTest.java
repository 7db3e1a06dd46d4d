/** Promise 7. */
public final class DigitTest {
    private static final int[] NEVER = {-1, -2, 19, 20, 64, 256, Integer.MIN_VALUE, Integer.MAX_VALUE};

    public static void main(String[] args) {
        Checks.sentence("Decimal digit k of register r's value", DigitTest::manyNumbers);
        Checks.sentence("without its sign, k = 0 the last one", DigitTest::withoutSignFromTheLast);
        Checks.sentence("BAD if r is outside 0..5 or there is no digit k.", DigitTest::badOutside);
        Checks.end();
    }

    private static void manyNumbers() {
        for (long value : Checks.values()) {
            String text = Checks.signed(value).abs().toString();
            for (int r = 0; r < Checks.REGISTERS; r++) {
                eachDigit(r, value, text);
            }
        }
    }

    private static void withoutSignFromTheLast() {
        read(0L, "0");
        read(7L, "7");
        read(-7L, "7");
        read(120L, "120");
        read(-120L, "120");
        read(4294967296L, "4294967296");
        read(1234567890987654321L, "1234567890987654321");
        read(-1234567890987654321L, "1234567890987654321");
        read(-1000000000000000000L, "1000000000000000000");
        read(Long.MAX_VALUE, "9223372036854775807");
        read(Long.MIN_VALUE, "9223372036854775808");
        for (int r = 0; r < Checks.REGISTERS; r++) {
            Checks.due("digit(" + r + ", 0)", Checks.filled().digit(r, 0), new int[] {3, 7, 0, 8, 7, 8}[r]);
        }
    }

    private static void read(long value, String text) {
        for (int k = 0; k < text.length(); k++) {
            Checks.due("digit(3, " + k + ") of " + value, at(value).digit(3, k), fromTheLast(text, k));
        }
    }

    private static int fromTheLast(String text, int k) {
        return text.charAt(text.length() - 1 - k) - '0';
    }

    private static void badOutside() {
        for (int r : Checks.NO_REGISTERS) {
            bad(r, 0);
            bad(r, -1);
            bad(r, 19);
        }
        for (int k : NEVER) {
            bad(4, k);
        }
        // The first k that is too great, after the last that is not.
        lastIs(0L, 0, 0);
        lastIs(9L, 0, 9);
        lastIs(-9L, 0, 9);
        lastIs(10L, 1, 1);
        lastIs(-120L, 2, 1);
        lastIs(Long.MAX_VALUE, 18, 9);
        lastIs(Long.MIN_VALUE, 18, 9);
    }

    private static void lastIs(long value, int k, int want) {
        Checks.due("digit(3, " + k + ") of " + value, at(value).digit(3, k), want);
        Checks.due("digit(3, " + (k + 1) + ") of " + value, at(value).digit(3, k + 1), HalfWords.BAD);
    }

    private static HalfWords at(long value) {
        return Checks.filled(3, value, 3, value);
    }

    private static void eachDigit(int r, long value, String text) {
        HalfWords x = Checks.filled(r, value, r, value);
        long[] before = Checks.state(x);
        for (int k = 0; k < 19; k++) {
            int want = k < text.length() ? fromTheLast(text, k) : HalfWords.BAD;
            Checks.due("digit(" + r + ", " + k + ") of " + value, x.digit(r, k), want);
        }
        for (int k : NEVER) {
            Checks.due("digit(" + r + ", " + k + ") of " + value, x.digit(r, k), HalfWords.BAD);
        }
        Checks.unchanged("the digits of " + value, x, before);
    }

    private static void bad(int r, int k) {
        HalfWords x = Checks.filled();
        long[] before = Checks.state(x);
        String call = "digit(" + r + ", " + k + ")";
        Checks.due(call, x.digit(r, k), HalfWords.BAD);
        Checks.unchanged(call, x, before);
    }
}
