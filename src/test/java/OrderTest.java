/** Promise 12, and the 512 calls that an object is made for. */
public final class OrderTest {
    private static final int CALLS = 512;

    public static void main(String[] args) {
        for (int r : Checks.NO_REGISTERS) {
            for (int a = 0; a < Checks.REGISTERS; a++) {
                badBeforeZero(r, a, a);
                badBeforeZero(a, r, a);
                badBeforeZero(r, r, a);
            }
        }
        manyCalls();
        Checks.end();
    }

    private static void badBeforeZero(int d, int a, int negative) {
        HalfWords x = Checks.filled(negative, -4L, negative, -4L);
        long[] before = Checks.state(x);
        String call = "root(" + d + ", " + a + ") with -4 in register " + negative;
        Checks.due(call, x.root(d, a), HalfWords.BAD);
        Checks.unchanged(call, x, before);
    }

    private static void manyCalls() {
        HalfWords x = new HalfWords();
        x.set(1, 1L);
        for (long n = 1; n <= (CALLS - 1) / 2; n++) {
            Checks.due("apply(ADD, 0, 0, 1), time " + n, x.apply(HalfWords.ADD, 0, 0, 1), 1);
            Checks.due("get(0), time " + n, x.get(0), n);
        }
    }
}
