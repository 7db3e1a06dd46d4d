/** Promise 11. */
public final class DivisorTest {
    public static void main(String[] args) {
        Checks.sentence("Register d becomes the greatest common divisor of the values of a and b",
            DivisorTest::manyNumbers);
        Checks.sentence("without their signs, taken as numbers from 0 to 2^63 "
            + "(0 if both are 0; 2^63 is stored as the least long)", DivisorTest::withoutSigns);
        Checks.sentence("A number outside 0..5: BAD.", DivisorTest::badOutside);
        Checks.sentence("Else answers 1.", DivisorTest::eachChoiceOfRegisters);
        Checks.end();
    }

    private static void manyNumbers() {
        for (long left : Checks.edges()) {
            for (long right : Checks.edges()) {
                check(0, 1, 2, left, right, due(left, right));
            }
        }
        long[] values = Checks.values();
        for (int i = 0; i < values.length; i++) {
            long right = values[(i * 37 + 11) % values.length];
            check(3, 4, 5, values[i], right, due(values[i], right));
        }
        longestRuns();
    }

    private static long due(long left, long right) {
        return Checks.signed(left).gcd(Checks.signed(right)).longValue();
    }

    private static void withoutSigns() {
        check(0, 1, 2, 0L, 0L, 0L);
        check(3, 3, 3, 0L, 0L, 0L);
        eachSign(0L, 5L, 5L);
        eachSign(12L, 18L, 6L);
        eachSign(7L, 7L, 7L);
        eachSign(1L, Long.MAX_VALUE, 1L);
        eachSign(0L, Long.MAX_VALUE, Long.MAX_VALUE);
        eachSign(0x600000000L, 0x900000000L, 0x300000000L);
        withLeast(Long.MIN_VALUE, Long.MIN_VALUE);
        withLeast(0L, Long.MIN_VALUE);
        withLeast(1L, 1L);
        withLeast(-1L, 1L);
        withLeast(Long.MAX_VALUE, 1L);
        withLeast(24L, 8L);
        withLeast(-24L, 8L);
        withLeast(0x4000000000000000L, 0x4000000000000000L);
        withLeast(0xC000000000000000L, 0x4000000000000000L);
    }

    private static void eachSign(long left, long right, long want) {
        for (int sign = 0; sign < 4; sign++) {
            long a = (sign & 1) == 0 ? left : -left;
            long b = (sign & 2) == 0 ? right : -right;
            check(0, 1, 2, a, b, want);
            check(0, 1, 2, b, a, want);
        }
    }

    private static void withLeast(long other, long want) {
        check(0, 1, 2, Long.MIN_VALUE, other, want);
        check(0, 1, 2, other, Long.MIN_VALUE, want);
    }

    /** Neighbours in Fibonacci's row take Euclid the most steps. */
    private static void longestRuns() {
        long previous = 1L;
        long current = 1L;
        for (int k = 2; k < 92; k++) {
            long next = previous + current;
            previous = current;
            current = next;
            check(0, 1, 2, previous, current, 1L);
            check(0, 1, 2, -current, previous, 1L);
        }
        Checks.due("the last of Fibonacci's numbers below 2^63", current, 7540113804746346429L);
    }

    private static void eachChoiceOfRegisters() {
        for (int d = 0; d < Checks.REGISTERS; d++) {
            for (int a = 0; a < Checks.REGISTERS; a++) {
                for (int b = 0; b < Checks.REGISTERS; b++) {
                    check(d, a, b, a == b ? -35L : 21L, -35L, a == b ? 35L : 7L);
                }
            }
        }
    }

    private static void badOutside() {
        for (int r : Checks.NO_REGISTERS) {
            bad(r, 0, 1);
            bad(0, r, 1);
            bad(0, 1, r);
            bad(r, r, r);
        }
        check(0, 5, 5, -9L, -9L, 9L);
        check(5, 0, 0, -9L, -9L, 9L);
    }

    private static void check(int d, int a, int b, long left, long right, long want) {
        HalfWords x = Checks.filled(a, left, b, right);
        long[] before = Checks.state(x);
        String call = "divisor(" + d + ", " + a + ", " + b + ") of " + left + " and " + right;
        Checks.due(call, x.divisor(d, a, b), 1);
        Checks.changed(call, x, before, d, want);
    }

    private static void bad(int d, int a, int b) {
        HalfWords x = Checks.filled();
        long[] before = Checks.state(x);
        String call = "divisor(" + d + ", " + a + ", " + b + ")";
        Checks.due(call, x.divisor(d, a, b), HalfWords.BAD);
        Checks.unchanged(call, x, before);
    }
}
