import java.math.BigInteger;

/** What the document promises, worked out with exact numbers and brought back into 64 bits at the end. */
final class Model {
    private final long[] registers = new long[Checks.REGISTERS];

    boolean set(int r, long value) {
        if (!has(r)) {
            return false;
        }
        registers[r] = value;
        return true;
    }

    long get(int r) {
        return has(r) ? registers[r] : 0L;
    }

    int apply(int op, int d, int a, int b) {
        if (op < 0 || op > 15 || !has(d) || !has(a) || !has(b)) {
            return -1;
        }
        if (divides(op) && registers[b] == 0L) {
            return -2;
        }
        registers[d] = result(op, registers[a], registers[b]);
        return 1;
    }

    int typeDigit(int d, int digit) {
        if (!has(d) || digit < 0 || digit > 9) {
            return -1;
        }
        registers[d] = signed(d).multiply(BigInteger.TEN).add(BigInteger.valueOf(digit)).longValue();
        return 1;
    }

    int digits(int r) {
        return has(r) ? text(r).length() : -1;
    }

    int digit(int r, int k) {
        if (!has(r) || k < 0 || k >= text(r).length()) {
            return -1;
        }
        return text(r).charAt(text(r).length() - 1 - k) - '0';
    }

    int root(int d, int a) {
        if (!has(d) || !has(a)) {
            return -1;
        }
        if (signed(a).signum() < 0) {
            return -2;
        }
        registers[d] = signed(a).sqrt().longValue();
        return 1;
    }

    int leadingZeros(int r) {
        return has(r) ? 64 - Checks.unsigned(registers[r]).bitLength() : -1;
    }

    int power(int d, int a, int e) {
        if (!has(d) || !has(a) || !has(e)) {
            return -1;
        }
        registers[d] = power(registers[a], registers[e]);
        return 1;
    }

    int divisor(int d, int a, int b) {
        if (!has(d) || !has(a) || !has(b)) {
            return -1;
        }
        registers[d] = signed(a).gcd(signed(b)).longValue();
        return 1;
    }

    private static boolean has(int r) {
        return r >= 0 && r < Checks.REGISTERS;
    }

    private BigInteger signed(int r) {
        return Checks.signed(registers[r]);
    }

    private String text(int r) {
        return signed(r).abs().toString();
    }

    static boolean divides(int op) {
        return op == HalfWords.DIV || op == HalfWords.REM || op == HalfWords.UDIV || op == HalfWords.UREM;
    }

    static long power(long base, long exponent) {
        return Checks.unsigned(base).modPow(Checks.unsigned(exponent), Checks.TWO_64).longValue();
    }

    static long result(int op, long left, long right) {
        BigInteger l = Checks.signed(left);
        BigInteger r = Checks.signed(right);
        BigInteger ul = Checks.unsigned(left);
        BigInteger ur = Checks.unsigned(right);
        int distance = ur.mod(BigInteger.valueOf(64)).intValue();
        switch (op) {
            case HalfWords.ADD: return l.add(r).longValue();
            case HalfWords.SUB: return l.subtract(r).longValue();
            case HalfWords.MUL: return l.multiply(r).longValue();
            case HalfWords.DIV: return l.divide(r).longValue();
            case HalfWords.REM: return l.remainder(r).longValue();
            case HalfWords.AND: return l.and(r).longValue();
            case HalfWords.OR: return l.or(r).longValue();
            case HalfWords.XOR: return l.xor(r).longValue();
            case HalfWords.SHL: return l.shiftLeft(distance).longValue();
            case HalfWords.SHR: return l.shiftRight(distance).longValue();
            case HalfWords.USHR: return ul.shiftRight(distance).longValue();
            case HalfWords.COMPARE: return l.compareTo(r);
            case HalfWords.UCOMPARE: return ul.compareTo(ur);
            case HalfWords.MULHIGH: return l.multiply(r).shiftRight(64).longValue();
            case HalfWords.UDIV: return ul.divide(ur).longValue();
            case HalfWords.UREM: return ul.remainder(ur).longValue();
            default: throw new IllegalArgumentException("no operation " + op);
        }
    }
}
