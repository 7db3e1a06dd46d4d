/** Promise 7. */
public final class DigitTest {
    private static final int[] NEVER = {-1, -2, 19, 20, 64, 256, Integer.MIN_VALUE, Integer.MAX_VALUE};

    public static void main(String[] args) {
        Checks.due("digit 0 of 0", at(0L).digit(3, 0), 0);
        Checks.due("digit 1 of 0", at(0L).digit(3, 1), HalfWords.BAD);
        Checks.due("digit 0 of -120", at(-120L).digit(3, 0), 0);
        Checks.due("digit 2 of -120", at(-120L).digit(3, 2), 1);
        Checks.due("digit 3 of -120", at(-120L).digit(3, 3), HalfWords.BAD);
        Checks.due("digit 0 of the least long", at(Long.MIN_VALUE).digit(3, 0), 8);
        Checks.due("digit 18 of the least long", at(Long.MIN_VALUE).digit(3, 18), 9);
        for (long value : Checks.values()) {
            eachDigit(value);
        }
        for (int r = 0; r < Checks.REGISTERS; r++) {
            Checks.due("digit(" + r + ", 0)", Checks.filled().digit(r, 0), new int[] {3, 7, 0, 8, 7, 8}[r]);
        }
        for (int r : Checks.NO_REGISTERS) {
            bad(r, 0);
            bad(r, -1);
            bad(r, 19);
        }
        Checks.end();
    }

    private static HalfWords at(long value) {
        return Checks.filled(3, value, 3, value);
    }

    private static void eachDigit(long value) {
        String text = Checks.signed(value).abs().toString();
        HalfWords x = at(value);
        long[] before = Checks.state(x);
        for (int k = 0; k < 19; k++) {
            int want = k < text.length() ? text.charAt(text.length() - 1 - k) - '0' : HalfWords.BAD;
            Checks.due("digit(3, " + k + ") of " + value, x.digit(3, k), want);
        }
        for (int k : NEVER) {
            Checks.due("digit(3, " + k + ") of " + value, x.digit(3, k), HalfWords.BAD);
        }
        Checks.unchanged("the digits of " + value, x, before);
    }

    private static void bad(int r, int k) {
        HalfWords x = Checks.filled();
        long[] before = Checks.state(x);
        String call = "digit(" + r + ", " + k + ")";
        Checks.due(call, x.digit(r, k), HalfWords.BAD);
        Checks.unchanged(call, x, before);
    }
}
