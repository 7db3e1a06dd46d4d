/** Promise 10. */
public final class PowerTest {
    public static void main(String[] args) {
        Checks.sentence("Register d becomes register a raised to the power of register e", PowerTest::manyNumbers);
        Checks.sentence("wrapping, with e taken as a number from 0 to 2^64 - 1 (any number to the power 0 is 1)",
            PowerTest::wrapping);
        Checks.sentence("A number outside 0..5: BAD.", PowerTest::badOutside);
        Checks.sentence("Else answers 1.", PowerTest::eachChoiceOfRegisters);
        Checks.end();
    }

    private static void manyNumbers() {
        for (long base : Checks.edges()) {
            for (long exponent : Checks.edges()) {
                check(0, 1, 2, base, exponent, Model.power(base, exponent));
            }
        }
        long[] values = Checks.values();
        for (int i = 0; i < values.length; i++) {
            long exponent = values[values.length - 1 - i];
            check(3, 4, 5, values[i], exponent, Model.power(values[i], exponent));
        }
        bySteps();
    }

    private static void wrapping() {
        for (long base : Checks.edges()) {
            check(0, 1, 2, base, 0L, 1L);
            check(0, 1, 2, base, 1L, base);
        }
        check(0, 1, 2, 10L, 18L, 1000000000000000000L);
        check(0, 1, 2, 10L, 19L, -8446744073709551616L);
        check(0, 1, 2, 2L, 62L, 0x4000000000000000L);
        check(0, 1, 2, 2L, 63L, Long.MIN_VALUE);
        check(0, 1, 2, 2L, 64L, 0L);
        check(0, 1, 2, -2L, 63L, Long.MIN_VALUE);
        check(0, 1, 2, -2L, 64L, 0L);
        check(0, 1, 2, 3L, 41L, -420491770248316829L);
        check(0, 1, 2, Long.MIN_VALUE, 2L, 0L);
        check(0, 1, 2, Long.MAX_VALUE, 2L, 1L);
        check(0, 1, 2, 0L, 5L, 0L);
        // An exponent with the highest bit is 2^63 or more, not negative.
        check(0, 1, 2, 0L, -1L, 0L);
        check(0, 1, 2, 0L, Long.MIN_VALUE, 0L);
        check(0, 1, 2, 1L, -1L, 1L);
        check(0, 1, 2, -1L, -1L, -1L);
        check(0, 1, 2, -1L, -2L, 1L);
        check(0, 1, 2, -1L, Long.MIN_VALUE, 1L);
        check(0, 1, 2, 2L, -1L, 0L);
        check(0, 1, 2, 2L, Long.MIN_VALUE, 0L);
        check(0, 1, 2, 3L, Long.MIN_VALUE, 1L);
        // 3 to the power 2^64 is 1, so 3 to the power 2^64 - 1 is the number whose product with 3 is 1.
        check(0, 1, 2, 3L, -1L, -6148914691236517205L);
    }

    private static void bySteps() {
        for (long base = -12; base <= 12; base++) {
            long product = 1L;
            for (int exponent = 0; exponent <= 70; exponent++) {
                check(0, 1, 2, base, exponent, product);
                product *= base;
            }
        }
    }

    private static void eachChoiceOfRegisters() {
        for (int d = 0; d < Checks.REGISTERS; d++) {
            for (int a = 0; a < Checks.REGISTERS; a++) {
                for (int e = 0; e < Checks.REGISTERS; e++) {
                    check(d, a, e, a == e ? 5L : -3L, 5L, a == e ? 3125L : -243L);
                }
            }
        }
    }

    private static void badOutside() {
        for (int r : Checks.NO_REGISTERS) {
            bad(r, 0, 1);
            bad(0, r, 1);
            bad(0, 1, r);
            bad(r, r, r);
        }
        check(0, 5, 5, 3L, 3L, 27L);
        check(5, 0, 0, 3L, 3L, 27L);
    }

    private static void check(int d, int a, int e, long base, long exponent, long want) {
        HalfWords x = Checks.filled(a, base, e, exponent);
        long[] before = Checks.state(x);
        String call = "power(" + d + ", " + a + ", " + e + ") of " + base + " and " + exponent;
        Checks.due(call, x.power(d, a, e), 1);
        Checks.changed(call, x, before, d, want);
    }

    private static void bad(int d, int a, int e) {
        HalfWords x = Checks.filled();
        long[] before = Checks.state(x);
        String call = "power(" + d + ", " + a + ", " + e + ")";
        Checks.due(call, x.power(d, a, e), HalfWords.BAD);
        Checks.unchanged(call, x, before);
    }
}
