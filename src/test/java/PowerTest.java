/** Promise 10. */
public final class PowerTest {
    public static void main(String[] args) {
        check(0, 1, 2, 0L, 0L, 1L);
        check(0, 1, 2, Long.MIN_VALUE, 0L, 1L);
        check(0, 1, 2, 0L, -1L, 0L);
        check(0, 1, 2, 2L, 63L, Long.MIN_VALUE);
        check(0, 1, 2, 2L, 64L, 0L);
        check(0, 1, 2, -2L, 63L, Long.MIN_VALUE);
        check(0, 1, 2, 10L, 18L, 1000000000000000000L);
        // An exponent with the highest bit is 2^63 or more, not negative.
        check(0, 1, 2, -1L, -1L, -1L);
        check(0, 1, 2, -1L, Long.MIN_VALUE, 1L);
        check(0, 1, 2, 2L, -1L, 0L);
        check(0, 1, 2, 3L, Long.MIN_VALUE, 1L);
        for (long base : Checks.edges()) {
            for (long exponent : Checks.edges()) {
                check(0, 1, 2, base, exponent, due(base, exponent));
            }
        }
        long[] values = Checks.values();
        for (int i = 0; i < values.length; i++) {
            long exponent = values[values.length - 1 - i];
            check(3, 4, 5, values[i], exponent, due(values[i], exponent));
        }
        bySteps();
        eachChoiceOfRegisters();
        wrongInputs();
        Checks.end();
    }

    private static long due(long base, long exponent) {
        return Checks.unsigned(base).modPow(Checks.unsigned(exponent), Checks.TWO_64).longValue();
    }

    private static void bySteps() {
        for (long base = -12; base <= 12; base++) {
            long product = 1L;
            for (int exponent = 0; exponent <= 70; exponent++) {
                check(0, 1, 2, base, exponent, product);
                product *= base;
            }
        }
    }

    private static void eachChoiceOfRegisters() {
        for (int d = 0; d < Checks.REGISTERS; d++) {
            for (int a = 0; a < Checks.REGISTERS; a++) {
                for (int e = 0; e < Checks.REGISTERS; e++) {
                    check(d, a, e, a == e ? 5L : -3L, 5L, a == e ? 3125L : -243L);
                }
            }
        }
    }

    private static void wrongInputs() {
        for (int r : Checks.NO_REGISTERS) {
            bad(r, 0, 1);
            bad(0, r, 1);
            bad(0, 1, r);
            bad(r, r, r);
        }
    }

    private static void check(int d, int a, int e, long base, long exponent, long want) {
        HalfWords x = Checks.filled(a, base, e, exponent);
        long[] before = Checks.state(x);
        String call = "power(" + d + ", " + a + ", " + e + ") of " + base + " and " + exponent;
        Checks.due(call, x.power(d, a, e), 1);
        Checks.changed(call, x, before, d, want);
    }

    private static void bad(int d, int a, int e) {
        HalfWords x = Checks.filled();
        long[] before = Checks.state(x);
        String call = "power(" + d + ", " + a + ", " + e + ")";
        Checks.due(call, x.power(d, a, e), HalfWords.BAD);
        Checks.unchanged(call, x, before);
    }
}
