/** The boundary cases of promise 4, one test for each sentence; the due numbers are written out by hand. */
public final class ApplyBoundaryTest {
    private static final long LEAST = Long.MIN_VALUE;
    private static final long GREATEST = Long.MAX_VALUE;

    /** 100 and 7 under each operation, in the order of the operations. */
    private static final long[] OF_100_AND_7 = {107, 93, 700, 14, 2, 4, 103, 99, 12800, 0, 0, 1, 1, 0, 14, 2};

    /** The same for 7 and 7. */
    private static final long[] OF_7_AND_7 = {14, 0, 49, 1, 0, 7, 7, 0, 896, 0, 0, 0, 0, 0, 1, 0};

    public static void main(String[] args) {
        Checks.sentence("with a and b the values of the registers of these numbers before the call",
            ApplyBoundaryTest::valuesBeforeTheCall);
        Checks.sentence("ADD, SUB, MUL wrap", ApplyBoundaryTest::wrap);
        Checks.sentence("DIV and REM are Java's "
            + "(towards zero; the least long divided by -1 is the least long, the rest 0)",
            ApplyBoundaryTest::javasDivision);
        Checks.sentence("SHL, SHR, USHR shift a by the lowest six bits of b", ApplyBoundaryTest::lowestSixBits);
        Checks.sentence("COMPARE gives -1, 0 or 1 as a is less than, equal to or greater than b",
            ApplyBoundaryTest::compare);
        Checks.sentence("UCOMPARE the same with both taken as numbers from 0 to 2^64 - 1",
            ApplyBoundaryTest::unsignedCompare);
        Checks.sentence("MULHIGH gives the upper 64 bits of the exact 128-bit product of the signed numbers",
            ApplyBoundaryTest::upperBits);
        Checks.sentence("UDIV and UREM take both as numbers from 0 to 2^64 - 1 and give quotient and rest in this form",
            ApplyBoundaryTest::unsignedDivision);
        Checks.sentence("Tested in this order: op outside 0..15 or d, a or b outside 0..5: BAD; "
            + "op is DIV, REM, UDIV or UREM and register b is 0: ZERO; in both cases nothing changes.",
            ApplyBoundaryTest::orderOfRefusals);
        Checks.end();
    }

    private static void valuesBeforeTheCall() {
        for (int op = HalfWords.ADD; op <= HalfWords.UREM; op++) {
            for (int d = 0; d < Checks.REGISTERS; d++) {
                int other = (d + 1) % Checks.REGISTERS;
                ApplyCalls.check(op, d, d, other, 100L, 7L, OF_100_AND_7[op]);
                ApplyCalls.check(op, d, other, d, 100L, 7L, OF_100_AND_7[op]);
                ApplyCalls.check(op, d, d, d, 7L, 7L, OF_7_AND_7[op]);
                ApplyCalls.check(op, d, other, other, 7L, 7L, OF_7_AND_7[op]);
            }
        }
    }

    private static void wrap() {
        ApplyCalls.check(HalfWords.ADD, GREATEST, 0L, GREATEST);
        ApplyCalls.check(HalfWords.ADD, GREATEST, 1L, LEAST);
        ApplyCalls.check(HalfWords.ADD, GREATEST, GREATEST, -2L);
        ApplyCalls.check(HalfWords.ADD, LEAST, -1L, GREATEST);
        ApplyCalls.check(HalfWords.ADD, LEAST, LEAST, 0L);
        // A carry out of the lower 32 bits, and none.
        ApplyCalls.check(HalfWords.ADD, 0xFFFFFFFFL, 1L, 0x100000000L);
        ApplyCalls.check(HalfWords.ADD, 0xFFFFFFFEL, 1L, 0xFFFFFFFFL);
        ApplyCalls.check(HalfWords.ADD, -1L, 1L, 0L);
        ApplyCalls.check(HalfWords.SUB, LEAST, 0L, LEAST);
        ApplyCalls.check(HalfWords.SUB, LEAST, 1L, GREATEST);
        ApplyCalls.check(HalfWords.SUB, 0L, LEAST, LEAST);
        ApplyCalls.check(HalfWords.SUB, GREATEST, -1L, LEAST);
        ApplyCalls.check(HalfWords.SUB, 0x100000000L, 1L, 0xFFFFFFFFL);
        ApplyCalls.check(HalfWords.SUB, 0L, 1L, -1L);
        ApplyCalls.check(HalfWords.MUL, LEAST, -1L, LEAST);
        ApplyCalls.check(HalfWords.MUL, LEAST, 2L, 0L);
        ApplyCalls.check(HalfWords.MUL, GREATEST, 2L, -2L);
        ApplyCalls.check(HalfWords.MUL, GREATEST, GREATEST, 1L);
        ApplyCalls.check(HalfWords.MUL, 0x100000000L, 0x100000000L, 0L);
        ApplyCalls.check(HalfWords.MUL, 0x100000000L, 0x100000001L, 0x100000000L);
        ApplyCalls.check(HalfWords.MUL, 0xFFFFFFFFL, 0xFFFFFFFFL, 0xFFFFFFFE00000001L);
        ApplyCalls.check(HalfWords.MUL, 3037000500L, 3037000500L, -9223372036709301616L);
    }

    private static void javasDivision() {
        divided(7L, 2L, 3L, 1L);
        divided(-7L, 2L, -3L, -1L);
        divided(7L, -2L, -3L, 1L);
        divided(-7L, -2L, 3L, -1L);
        divided(1L, 2L, 0L, 1L);
        divided(-1L, 2L, 0L, -1L);
        divided(0L, -5L, 0L, 0L);
        divided(LEAST, -1L, LEAST, 0L);
        divided(LEAST, 1L, LEAST, 0L);
        divided(LEAST + 1L, -1L, GREATEST, 0L);
        divided(LEAST, LEAST, 1L, 0L);
        divided(LEAST, GREATEST, -1L, -1L);
        divided(GREATEST, LEAST, 0L, GREATEST);
        divided(GREATEST, -1L, -GREATEST, 0L);
        divided(LEAST, 10L, -922337203685477580L, -8L);
        divided(LEAST, -2L, 0x4000000000000000L, 0L);
    }

    private static void divided(long left, long right, long quotient, long rest) {
        ApplyCalls.check(HalfWords.DIV, left, right, quotient);
        ApplyCalls.check(HalfWords.REM, left, right, rest);
    }

    private static void lowestSixBits() {
        shifted(0L, -6L, -6L, -6L);
        shifted(1L, -12L, -3L, 0x7FFFFFFFFFFFFFFDL);
        shifted(31L, -0x300000000L, -1L, 0x1FFFFFFFFL);
        shifted(32L, -0x600000000L, -1L, 0xFFFFFFFFL);
        shifted(33L, -0xC00000000L, -1L, 0x7FFFFFFFL);
        shifted(62L, LEAST, -1L, 3L);
        shifted(63L, 0L, -1L, 1L);
    }

    /** What shifts of -6 by the distance give, and by all numbers with the same lowest six bits. */
    private static void shifted(long distance, long left, long right, long unsignedRight) {
        long[] same = {distance, distance + 64L, distance - 64L, distance + 128L, distance + 0x100000000L,
            distance | LEAST, distance | (GREATEST - 63L), distance | -64L};
        for (long b : same) {
            ApplyCalls.check(HalfWords.SHL, -6L, b, left);
            ApplyCalls.check(HalfWords.SHR, -6L, b, right);
            ApplyCalls.check(HalfWords.USHR, -6L, b, unsignedRight);
        }
    }

    private static void compare() {
        rising(HalfWords.COMPARE, new long[] {LEAST, LEAST + 1L, -0x100000001L, -0x100000000L, -0xFFFFFFFFL,
            -0x80000000L, -2L, -1L, 0L, 1L, 2L, 0x7FFFFFFFL, 0x80000000L, 0xFFFFFFFFL, 0x100000000L, 0x100000001L,
            GREATEST - 1L, GREATEST});
    }

    private static void unsignedCompare() {
        rising(HalfWords.UCOMPARE, new long[] {0L, 1L, 2L, 0x7FFFFFFFL, 0x80000000L, 0xFFFFFFFFL, 0x100000000L,
            0x100000001L, GREATEST - 1L, GREATEST, LEAST, LEAST + 1L, -0x100000001L, -0x100000000L, -0xFFFFFFFFL,
            -0x80000000L, -2L, -1L});
    }

    private static void rising(int op, long[] row) {
        for (int i = 0; i < row.length; i++) {
            for (int j = 0; j < row.length; j++) {
                long want = 0L;
                if (i != j) {
                    want = i < j ? -1L : 1L;
                }
                ApplyCalls.check(op, row[i], row[j], want);
            }
        }
    }

    private static void upperBits() {
        upper(0L, LEAST, 0L);
        upper(1L, GREATEST, 0L);
        upper(-1L, -1L, 0L);
        upper(-1L, 1L, -1L);
        upper(-1L, GREATEST, -1L);
        upper(-1L, LEAST, 0L);
        upper(1L, LEAST, -1L);
        upper(2L, LEAST, -1L);
        upper(2L, GREATEST, 0L);
        upper(LEAST, LEAST, 0x4000000000000000L);
        upper(GREATEST, GREATEST, 0x3FFFFFFFFFFFFFFFL);
        upper(LEAST, GREATEST, 0xC000000000000000L);
        upper(0x100000000L, 0x100000000L, 1L);
        upper(0xFFFFFFFFL, 0xFFFFFFFFL, 0L);
        upper(0xFFFFFFFFL, 0x100000001L, 0L);
        upper(0x100000001L, 0x100000001L, 1L);
        upper(-0x100000000L, 0x100000000L, -1L);
        // 2^63 - 1 times 2^32 + 1: the lower halves' carries reach the upper half.
        upper(GREATEST, 0x100000001L, 0x80000000L);
        upper(GREATEST, 0xFFFFFFFFL, 0x7FFFFFFFL);
    }

    private static void upper(long left, long right, long want) {
        ApplyCalls.check(HalfWords.MULHIGH, left, right, want);
        ApplyCalls.check(HalfWords.MULHIGH, right, left, want);
    }

    private static void unsignedDivision() {
        unsignedDivided(7L, 2L, 3L, 1L);
        unsignedDivided(0L, -1L, 0L, 0L);
        unsignedDivided(5L, -1L, 0L, 5L);
        unsignedDivided(-1L, 1L, -1L, 0L);
        unsignedDivided(-1L, 2L, GREATEST, 1L);
        unsignedDivided(-1L, 10L, 1844674407370955161L, 5L);
        unsignedDivided(-1L, -1L, 1L, 0L);
        unsignedDivided(-2L, -1L, 0L, -2L);
        unsignedDivided(-1L, -2L, 1L, 1L);
        unsignedDivided(LEAST, -1L, 0L, LEAST);
        unsignedDivided(LEAST, LEAST, 1L, 0L);
        unsignedDivided(LEAST, GREATEST, 1L, 1L);
        unsignedDivided(GREATEST, LEAST, 0L, GREATEST);
        unsignedDivided(-1L, LEAST, 1L, GREATEST);
        unsignedDivided(-1L, GREATEST, 2L, 1L);
        unsignedDivided(-2L, GREATEST, 2L, 0L);
        unsignedDivided(-3L, GREATEST, 1L, GREATEST - 1L);
        unsignedDivided(LEAST, 3L, 3074457345618258602L, 2L);
        unsignedDivided(-1L, 3L, 6148914691236517205L, 0L);
        unsignedDivided(-1L, 0x100000000L, 0xFFFFFFFFL, 0xFFFFFFFFL);
        unsignedDivided(-1L, 0xFFFFFFFFL, 0x100000001L, 0L);
        unsignedDivided(-1L, 0x100000001L, 0xFFFFFFFFL, 0L);
    }

    private static void unsignedDivided(long left, long right, long quotient, long rest) {
        ApplyCalls.check(HalfWords.UDIV, left, right, quotient);
        ApplyCalls.check(HalfWords.UREM, left, right, rest);
    }

    private static void orderOfRefusals() {
        for (int op : ApplyCalls.NO_OPERATIONS) {
            ApplyCalls.bad(op, 0, 1, 3);
            // Register 2 of a filled object holds 0.
            ApplyCalls.bad(op, 0, 1, 2);
        }
        for (int op = HalfWords.ADD; op <= HalfWords.UREM; op++) {
            for (int r : Checks.NO_REGISTERS) {
                ApplyCalls.bad(op, r, 1, 3);
                ApplyCalls.bad(op, 0, r, 3);
                ApplyCalls.bad(op, 0, 1, r);
                ApplyCalls.bad(op, r, 1, 2);
                ApplyCalls.bad(op, 0, r, 2);
                ApplyCalls.bad(op, r, r, r);
            }
        }
        zeroDivisors();
        othersTakeZero();
    }

    private static void zeroDivisors() {
        for (int op : new int[] {HalfWords.DIV, HalfWords.REM, HalfWords.UDIV, HalfWords.UREM}) {
            for (int b = 0; b < Checks.REGISTERS; b++) {
                int a = (b + 1) % Checks.REGISTERS;
                ApplyCalls.refused(op, a, a, b, 9L);
                ApplyCalls.refused(op, b, a, b, LEAST);
                ApplyCalls.refused(op, b, b, b, 0L);
                ApplyCalls.refused(op, (b + 2) % Checks.REGISTERS, a, b, 0L);
            }
        }
    }

    private static void othersTakeZero() {
        ApplyCalls.check(HalfWords.ADD, 5L, 0L, 5L);
        ApplyCalls.check(HalfWords.SUB, 5L, 0L, 5L);
        ApplyCalls.check(HalfWords.MUL, 5L, 0L, 0L);
        ApplyCalls.check(HalfWords.AND, 5L, 0L, 0L);
        ApplyCalls.check(HalfWords.OR, 5L, 0L, 5L);
        ApplyCalls.check(HalfWords.XOR, 5L, 0L, 5L);
        ApplyCalls.check(HalfWords.SHL, 5L, 0L, 5L);
        ApplyCalls.check(HalfWords.SHR, 5L, 0L, 5L);
        ApplyCalls.check(HalfWords.USHR, 5L, 0L, 5L);
        ApplyCalls.check(HalfWords.COMPARE, 5L, 0L, 1L);
        ApplyCalls.check(HalfWords.UCOMPARE, 5L, 0L, 1L);
        ApplyCalls.check(HalfWords.MULHIGH, 5L, 0L, 0L);
        // 0 is refused as a divisor alone: it can be divided.
        ApplyCalls.check(HalfWords.DIV, 0L, 5L, 0L);
        ApplyCalls.check(HalfWords.REM, 0L, 5L, 0L);
        ApplyCalls.check(HalfWords.UDIV, 0L, 5L, 0L);
        ApplyCalls.check(HalfWords.UREM, 0L, 5L, 0L);
        // A number whose lower or upper half alone is 0 is not 0.
        ApplyCalls.check(HalfWords.DIV, 0x100000005L, 0x100000000L, 1L);
        ApplyCalls.check(HalfWords.REM, 0x100000005L, 0x100000000L, 5L);
        ApplyCalls.check(HalfWords.UDIV, 0x100000005L, LEAST, 0L);
        ApplyCalls.check(HalfWords.UREM, 0x100000005L, 5L, 1L);
    }
}
