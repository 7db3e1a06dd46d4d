import java.math.BigInteger;

/** Promise 4. */
public final class ApplyTest {
    private static final int[] NO_OPERATIONS = {-1, -2, 16, 17, 32, 256, Integer.MIN_VALUE, Integer.MAX_VALUE};

    public static void main(String[] args) {
        told();
        for (long left : Checks.edges()) {
            for (long right : Checks.edges()) {
                eachOperation(left, right);
            }
        }
        long[] values = Checks.values();
        for (int i = 0; i < values.length; i++) {
            eachOperation(values[i], values[(i * 37 + 11) % values.length]);
            eachOperation(values[i], values[values.length - 1 - i]);
        }
        eachChoiceOfRegisters();
        wrongInputs();
        Checks.end();
    }

    /** Answers worked out by hand, so that the tests don't stand on the exact numbers of BigInteger alone. */
    private static void told() {
        check(HalfWords.ADD, 0, 1, 2, Long.MAX_VALUE, 1L, Long.MIN_VALUE);
        check(HalfWords.SUB, 0, 1, 2, Long.MIN_VALUE, 1L, Long.MAX_VALUE);
        check(HalfWords.MUL, 0, 1, 2, 0x100000000L, 0x100000001L, 0x100000000L);
        check(HalfWords.DIV, 0, 1, 2, -7L, 2L, -3L);
        check(HalfWords.REM, 0, 1, 2, -7L, 2L, -1L);
        check(HalfWords.REM, 0, 1, 2, 7L, -2L, 1L);
        check(HalfWords.DIV, 0, 1, 2, Long.MIN_VALUE, -1L, Long.MIN_VALUE);
        check(HalfWords.REM, 0, 1, 2, Long.MIN_VALUE, -1L, 0L);
        check(HalfWords.SHL, 0, 1, 2, 5L, 64L, 5L);
        check(HalfWords.SHL, 0, 1, 2, 1L, -1L, Long.MIN_VALUE);
        check(HalfWords.SHR, 0, 1, 2, Long.MIN_VALUE, 63L, -1L);
        check(HalfWords.USHR, 0, 1, 2, Long.MIN_VALUE, 63L, 1L);
        check(HalfWords.USHR, 0, 1, 2, -1L, 0x100000000L, -1L);
        check(HalfWords.COMPARE, 0, 1, 2, Long.MIN_VALUE, Long.MAX_VALUE, -1L);
        check(HalfWords.COMPARE, 0, 1, 2, 5L, 5L, 0L);
        check(HalfWords.UCOMPARE, 0, 1, 2, -1L, 1L, 1L);
        check(HalfWords.UCOMPARE, 0, 1, 2, Long.MAX_VALUE, Long.MIN_VALUE, -1L);
        check(HalfWords.MULHIGH, 0, 1, 2, Long.MIN_VALUE, Long.MIN_VALUE, 0x4000000000000000L);
        check(HalfWords.MULHIGH, 0, 1, 2, -1L, 1L, -1L);
        check(HalfWords.UDIV, 0, 1, 2, -1L, 2L, Long.MAX_VALUE);
        check(HalfWords.UDIV, 0, 1, 2, -1L, -2L, 1L);
        check(HalfWords.UREM, 0, 1, 2, -1L, -2L, 1L);
        check(HalfWords.UREM, 0, 1, 2, 5L, -1L, 5L);
    }

    private static void eachOperation(long left, long right) {
        for (int op = HalfWords.ADD; op <= HalfWords.UREM; op++) {
            if (right == 0L && divides(op)) {
                refused(op, 0, 1, 2, left);
            } else {
                check(op, 0, 1, 2, left, right, due(op, left, right));
            }
        }
    }

    private static void eachChoiceOfRegisters() {
        for (int op = HalfWords.ADD; op <= HalfWords.UREM; op++) {
            for (int d = 0; d < Checks.REGISTERS; d++) {
                for (int a = 0; a < Checks.REGISTERS; a++) {
                    for (int b = 0; b < Checks.REGISTERS; b++) {
                        long right = -1234567L;
                        long left = a == b ? right : 0x7000000000000123L;
                        check(op, d, a, b, left, right, due(op, left, right));
                        if (divides(op)) {
                            refused(op, d, a, b, left);
                        }
                    }
                }
            }
        }
    }

    private static void wrongInputs() {
        for (int op : NO_OPERATIONS) {
            bad(op, 0, 1, 3);
            bad(op, 0, 1, 2);
        }
        for (int op = HalfWords.ADD; op <= HalfWords.UREM; op++) {
            for (int r : Checks.NO_REGISTERS) {
                bad(op, r, 1, 3);
                bad(op, 0, r, 3);
                bad(op, 0, 1, r);
                // Register 2 holds 0: BAD is due before ZERO.
                bad(op, r, 1, 2);
                bad(op, 0, r, 2);
                bad(op, r, r, r);
            }
        }
    }

    private static boolean divides(int op) {
        return op == HalfWords.DIV || op == HalfWords.REM || op == HalfWords.UDIV || op == HalfWords.UREM;
    }

    private static void check(int op, int d, int a, int b, long left, long right, long want) {
        HalfWords x = Checks.filled(a, left, b, right);
        long[] before = Checks.state(x);
        String call = call(op, d, a, b) + " of " + left + " and " + right;
        Checks.due(call, x.apply(op, d, a, b), 1);
        Checks.changed(call, x, before, d, want);
    }

    private static void refused(int op, int d, int a, int b, long left) {
        HalfWords x = Checks.filled(a, left, b, 0L);
        long[] before = Checks.state(x);
        String call = call(op, d, a, b) + " of " + left + " and 0";
        Checks.due(call, x.apply(op, d, a, b), HalfWords.ZERO);
        Checks.unchanged(call, x, before);
    }

    private static void bad(int op, int d, int a, int b) {
        HalfWords x = Checks.filled();
        long[] before = Checks.state(x);
        String call = call(op, d, a, b);
        Checks.due(call, x.apply(op, d, a, b), HalfWords.BAD);
        Checks.unchanged(call, x, before);
    }

    private static String call(int op, int d, int a, int b) {
        return "apply(" + op + ", " + d + ", " + a + ", " + b + ")";
    }

    private static long due(int op, long left, long right) {
        BigInteger l = Checks.signed(left);
        BigInteger r = Checks.signed(right);
        BigInteger ul = Checks.unsigned(left);
        BigInteger ur = Checks.unsigned(right);
        int distance = ur.mod(BigInteger.valueOf(64)).intValue();
        switch (op) {
            case HalfWords.ADD: return l.add(r).longValue();
            case HalfWords.SUB: return l.subtract(r).longValue();
            case HalfWords.MUL: return l.multiply(r).longValue();
            case HalfWords.DIV: return l.divide(r).longValue();
            case HalfWords.REM: return l.remainder(r).longValue();
            case HalfWords.AND: return l.and(r).longValue();
            case HalfWords.OR: return l.or(r).longValue();
            case HalfWords.XOR: return l.xor(r).longValue();
            case HalfWords.SHL: return l.shiftLeft(distance).longValue();
            case HalfWords.SHR: return l.shiftRight(distance).longValue();
            case HalfWords.USHR: return ul.shiftRight(distance).longValue();
            case HalfWords.COMPARE: return l.compareTo(r);
            case HalfWords.UCOMPARE: return ul.compareTo(ur);
            case HalfWords.MULHIGH: return l.multiply(r).shiftRight(64).longValue();
            case HalfWords.UDIV: return ul.divide(ur).longValue();
            case HalfWords.UREM: return ul.remainder(ur).longValue();
            default: throw new IllegalArgumentException("no operation " + op);
        }
    }
}
