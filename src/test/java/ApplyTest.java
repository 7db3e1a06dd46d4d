/** Promise 4: every operation over many numbers and all registers; ApplyBoundaryTest has its sentences one by one. */
public final class ApplyTest {
    public static void main(String[] args) {
        Checks.sentence("Register d becomes a op b", ApplyTest::manyNumbers);
        Checks.sentence("Else answers 1.", ApplyTest::eachChoiceOfRegisters);
        Checks.end();
    }

    private static void manyNumbers() {
        for (long left : Checks.edges()) {
            for (long right : Checks.edges()) {
                eachOperation(left, right);
            }
        }
        long[] values = Checks.values();
        for (int i = 0; i < values.length; i++) {
            eachOperation(values[i], values[(i * 37 + 11) % values.length]);
            eachOperation(values[i], values[values.length - 1 - i]);
        }
    }

    private static void eachOperation(long left, long right) {
        for (int op = HalfWords.ADD; op <= HalfWords.UREM; op++) {
            if (right == 0L && Model.divides(op)) {
                ApplyCalls.refused(op, 0, 1, 2, left);
            } else {
                ApplyCalls.check(op, 0, 1, 2, left, right, Model.result(op, left, right));
            }
        }
    }

    private static void eachChoiceOfRegisters() {
        for (int op = HalfWords.ADD; op <= HalfWords.UREM; op++) {
            for (int d = 0; d < Checks.REGISTERS; d++) {
                for (int a = 0; a < Checks.REGISTERS; a++) {
                    for (int b = 0; b < Checks.REGISTERS; b++) {
                        long right = -1234567L;
                        long left = a == b ? right : 0x7000000000000123L;
                        ApplyCalls.check(op, d, a, b, left, right, Model.result(op, left, right));
                        if (Model.divides(op)) {
                            ApplyCalls.refused(op, d, a, b, left);
                        }
                    }
                }
            }
        }
    }
}
