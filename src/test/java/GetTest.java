/** Promise 3. */
public final class GetTest {
    public static void main(String[] args) {
        Checks.sentence("A register's value", GetTest::valueOfEachRegister);
        Checks.sentence("0 for r outside 0..5.", GetTest::zeroOutside);
        Checks.end();
    }

    private static void valueOfEachRegister() {
        HalfWords x = noneZero();
        for (int r = 0; r < Checks.REGISTERS; r++) {
            Checks.due("get(" + r + ")", x.get(r), Long.MIN_VALUE + r);
            Checks.due("get(" + r + ") again", x.get(r), Long.MIN_VALUE + r);
        }
        for (long value : Checks.values()) {
            for (int r = 0; r < Checks.REGISTERS; r++) {
                Checks.due("get(" + r + ")", Checks.filled(r, value, r, value).get(r), value);
            }
        }
    }

    private static HalfWords noneZero() {
        HalfWords x = new HalfWords();
        for (int r = 0; r < Checks.REGISTERS; r++) {
            x.set(r, Long.MIN_VALUE + r);
        }
        return x;
    }

    private static void zeroOutside() {
        HalfWords x = noneZero();
        for (int r : Checks.NO_REGISTERS) {
            Checks.due("get(" + r + ")", x.get(r), 0L);
        }
        Checks.due("get(0), the first that is inside", x.get(0), Long.MIN_VALUE);
        Checks.due("get(5), the last that is inside", x.get(5), Long.MIN_VALUE + 5L);
    }
}
