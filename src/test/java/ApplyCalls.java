/** One call of apply on an object of its own, with a look at the answer and at all registers. */
final class ApplyCalls {
    static final int[] NO_OPERATIONS = {-1, -2, 16, 17, 32, 256, Integer.MIN_VALUE, Integer.MAX_VALUE};

    private ApplyCalls() {
    }

    /** With registers that differ, for tests in which the registers don't matter. */
    static void check(int op, long left, long right, long want) {
        check(op, 0, 1, 2, left, right, want);
    }

    static void check(int op, int d, int a, int b, long left, long right, long want) {
        HalfWords x = Checks.filled(a, left, b, right);
        long[] before = Checks.state(x);
        String call = call(op, d, a, b) + " of " + left + " and " + right;
        Checks.due(call, x.apply(op, d, a, b), 1);
        Checks.changed(call, x, before, d, want);
    }

    static void refused(int op, int d, int a, int b, long left) {
        HalfWords x = Checks.filled(a, left, b, 0L);
        long[] before = Checks.state(x);
        String call = call(op, d, a, b) + " of " + left + " and 0";
        Checks.due(call, x.apply(op, d, a, b), HalfWords.ZERO);
        Checks.unchanged(call, x, before);
    }

    static void bad(int op, int d, int a, int b) {
        HalfWords x = Checks.filled();
        long[] before = Checks.state(x);
        String call = call(op, d, a, b);
        Checks.due(call, x.apply(op, d, a, b), HalfWords.BAD);
        Checks.unchanged(call, x, before);
    }

    private static String call(int op, int d, int a, int b) {
        return "apply(" + op + ", " + d + ", " + a + ", " + b + ")";
    }
}
