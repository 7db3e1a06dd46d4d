/** Promise 12. */
public final class OrderTest {
    public static void main(String[] args) {
        Checks.sentence("root: BAD (for d as for a) is tested before ZERO.", OrderTest::badBeforeZero);
        Checks.end();
    }

    private static void badBeforeZero() {
        for (int r : Checks.NO_REGISTERS) {
            for (int a = 0; a < Checks.REGISTERS; a++) {
                bothRefusals(r, a, a);
                bothRefusals(a, r, a);
                bothRefusals(r, r, a);
            }
        }
        // With nothing but the negative number wrong, the same call answers ZERO.
        HalfWords x = Checks.filled(1, -4L, 1, -4L);
        Checks.due("root(0, 1) with -4 in register 1", x.root(0, 1), HalfWords.ZERO);
    }

    private static void bothRefusals(int d, int a, int negative) {
        HalfWords x = Checks.filled(negative, -4L, negative, -4L);
        long[] before = Checks.state(x);
        String call = "root(" + d + ", " + a + ") with -4 in register " + negative;
        Checks.due(call, x.root(d, a), HalfWords.BAD);
        Checks.unchanged(call, x, before);
    }
}
