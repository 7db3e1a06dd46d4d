/** Promise 11. */
public final class DivisorTest {
    public static void main(String[] args) {
        check(0, 1, 2, 0L, 0L, 0L);
        check(0, 1, 2, 0L, -5L, 5L);
        check(0, 1, 2, -12L, 18L, 6L);
        check(0, 1, 2, Long.MIN_VALUE, 0L, Long.MIN_VALUE);
        check(0, 1, 2, 0L, Long.MIN_VALUE, Long.MIN_VALUE);
        check(0, 1, 2, Long.MIN_VALUE, Long.MIN_VALUE, Long.MIN_VALUE);
        check(0, 1, 2, Long.MIN_VALUE, -1L, 1L);
        check(0, 1, 2, Long.MIN_VALUE, 0x4000000000000000L, 0x4000000000000000L);
        check(0, 1, 2, Long.MIN_VALUE, 24L, 8L);
        for (long left : Checks.edges()) {
            for (long right : Checks.edges()) {
                check(0, 1, 2, left, right, due(left, right));
            }
        }
        long[] values = Checks.values();
        for (int i = 0; i < values.length; i++) {
            long right = values[(i * 37 + 11) % values.length];
            check(3, 4, 5, values[i], right, due(values[i], right));
        }
        longestRuns();
        eachChoiceOfRegisters();
        wrongInputs();
        Checks.end();
    }

    private static long due(long left, long right) {
        return Checks.signed(left).gcd(Checks.signed(right)).longValue();
    }

    /** Neighbours in Fibonacci's row take Euclid the most steps. */
    private static void longestRuns() {
        long previous = 1L;
        long current = 1L;
        for (int k = 2; k < 92; k++) {
            long next = previous + current;
            previous = current;
            current = next;
            check(0, 1, 2, previous, current, 1L);
            check(0, 1, 2, -current, previous, 1L);
        }
        Checks.due("the last of Fibonacci's numbers below 2^63", current, 7540113804746346429L);
    }

    private static void eachChoiceOfRegisters() {
        for (int d = 0; d < Checks.REGISTERS; d++) {
            for (int a = 0; a < Checks.REGISTERS; a++) {
                for (int b = 0; b < Checks.REGISTERS; b++) {
                    check(d, a, b, a == b ? -35L : 21L, -35L, a == b ? 35L : 7L);
                }
            }
        }
    }

    private static void wrongInputs() {
        for (int r : Checks.NO_REGISTERS) {
            bad(r, 0, 1);
            bad(0, r, 1);
            bad(0, 1, r);
            bad(r, r, r);
        }
    }

    private static void check(int d, int a, int b, long left, long right, long want) {
        HalfWords x = Checks.filled(a, left, b, right);
        long[] before = Checks.state(x);
        String call = "divisor(" + d + ", " + a + ", " + b + ") of " + left + " and " + right;
        Checks.due(call, x.divisor(d, a, b), 1);
        Checks.changed(call, x, before, d, want);
    }

    private static void bad(int d, int a, int b) {
        HalfWords x = Checks.filled();
        long[] before = Checks.state(x);
        String call = "divisor(" + d + ", " + a + ", " + b + ")";
        Checks.due(call, x.divisor(d, a, b), HalfWords.BAD);
        Checks.unchanged(call, x, before);
    }
}
