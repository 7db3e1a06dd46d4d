/** The document's terms: the registers, and operations that are Java's own, beside which each is put here. */
public final class TermsTest {
    public static void main(String[] args) {
        Checks.sentence("There are 6 REGISTERS, 0 to 5, each of which holds a 64-bit number "
            + "with the meaning of Java's long", TermsTest::sixRegisters);
        Checks.sentence("all operations give what Java's operations on long give.", TermsTest::javasOperations);
        Checks.end();
    }

    private static void sixRegisters() {
        for (long value : Checks.values()) {
            HalfWords x = new HalfWords();
            long[] all = new long[Checks.REGISTERS];
            for (int r = 0; r < Checks.REGISTERS; r++) {
                all[r] = value + r;
                Checks.due("set(" + r + ", " + all[r] + ")", x.set(r, all[r]), true);
            }
            for (int r : Checks.NO_REGISTERS) {
                Checks.due("set(" + r + ", 1)", x.set(r, 1L), false);
            }
            Checks.unchanged("setting all registers from " + value + " on", x, all);
        }
    }

    private static void javasOperations() {
        for (long left : Checks.edges()) {
            for (long right : Checks.edges()) {
                eachOperation(left, right);
            }
        }
        long[] values = Checks.values();
        for (int i = 0; i < values.length; i++) {
            eachOperation(values[i], values[(i * 53 + 29) % values.length]);
            ofOneNumber(values[i]);
        }
    }

    private static void eachOperation(long left, long right) {
        for (int op = HalfWords.ADD; op <= HalfWords.UREM; op++) {
            if (right != 0L || !Model.divides(op)) {
                ApplyCalls.check(op, 5, 3, 4, left, right, javas(op, left, right));
            }
        }
    }

    private static long javas(int op, long left, long right) {
        switch (op) {
            case HalfWords.ADD: return left + right;
            case HalfWords.SUB: return left - right;
            case HalfWords.MUL: return left * right;
            case HalfWords.DIV: return left / right;
            case HalfWords.REM: return left % right;
            case HalfWords.AND: return left & right;
            case HalfWords.OR: return left | right;
            case HalfWords.XOR: return left ^ right;
            case HalfWords.SHL: return left << right;
            case HalfWords.SHR: return left >> right;
            case HalfWords.USHR: return left >>> right;
            case HalfWords.COMPARE: return Integer.signum(Long.compare(left, right));
            case HalfWords.UCOMPARE: return Integer.signum(Long.compareUnsigned(left, right));
            case HalfWords.MULHIGH: return Math.multiplyHigh(left, right);
            case HalfWords.UDIV: return Long.divideUnsigned(left, right);
            case HalfWords.UREM: return Long.remainderUnsigned(left, right);
            default: throw new IllegalArgumentException("no operation " + op);
        }
    }

    private static void ofOneNumber(long value) {
        HalfWords x = Checks.filled(2, value, 2, value);
        Checks.due("leadingZeros(2) of " + value, x.leadingZeros(2), Long.numberOfLeadingZeros(value));
        // Math.abs leaves the least long as it is, and read without a sign that is 2^63.
        Checks.due("digits(2) of " + value, x.digits(2), Long.toUnsignedString(Math.abs(value)).length());
        Checks.due("digit(2, 0) of " + value, x.digit(2, 0), Math.abs(value % 10L));
        Checks.due("typeDigit(2, 7) at " + value, x.typeDigit(2, 7), 1);
        Checks.due("get(2) after typeDigit(2, 7) at " + value, x.get(2), value * 10L + 7L);
    }
}
