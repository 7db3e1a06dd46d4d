/** Arithmetic of 64-bit numbers in six registers, with the meaning of Java's long. */
public final class HalfWords {
    public static final int ADD = 0;
    public static final int SUB = 1;
    public static final int MUL = 2;
    public static final int DIV = 3;
    public static final int REM = 4;
    public static final int AND = 5;
    public static final int OR = 6;
    public static final int XOR = 7;
    public static final int SHL = 8;
    public static final int SHR = 9;
    public static final int USHR = 10;
    public static final int COMPARE = 11;
    public static final int UCOMPARE = 12;
    public static final int MULHIGH = 13;
    public static final int UDIV = 14;
    public static final int UREM = 15;
    public static final int BAD = -1;
    public static final int ZERO = -2;

    private static final int DONE = 1;
    private static final int REGISTERS = 6;
    private static final int BITS = 64;
    private static final int HALF_BITS = 32;
    private static final long LOW_HALF = 0xFFFFFFFFL;
    private static final long SIGN_BIT = 1L << 63;

    /** 2^63 has 19 decimal digits, and no value without its sign is greater. */
    private static final int MOST_DIGITS = 19;

    /** The root of the greatest long: the square of any greater number leaves the range of long. */
    private static final long GREATEST_ROOT = 3037000499L;

    /** Euclid's steps are most for neighbours in Fibonacci's row; up to 2^63 these need fewer than 93. */
    private static final int MOST_EUCLID_STEPS = 128;

    private final long[] registers = new long[REGISTERS];

    public HalfWords() {
    }

    public boolean set(int r, long value) {
        if (!isRegister(r)) {
            return false;
        }
        registers[r] = value;
        return true;
    }

    public long get(int r) {
        if (!isRegister(r)) {
            return 0L;
        }
        return registers[r];
    }

    public int apply(int op, int d, int a, int b) {
        if (op < ADD || op > UREM || !isRegister(d) || !isRegister(a) || !isRegister(b)) {
            return BAD;
        }
        long left = registers[a];
        long right = registers[b];
        if (!isDivision(op)) {
            registers[d] = combine(op, left, right);
        } else if (right != 0L) {
            registers[d] = divide(op, left, right);
        } else {
            return ZERO;
        }
        return DONE;
    }

    public int typeDigit(int d, int digit) {
        if (!isRegister(d) || digit < 0 || digit > 9) {
            return BAD;
        }
        registers[d] = registers[d] * 10L + digit;
        return DONE;
    }

    public int digits(int r) {
        if (!isRegister(r)) {
            return BAD;
        }
        return countDigits(registers[r]);
    }

    public int digit(int r, int k) {
        if (!isRegister(r) || k < 0 || k >= countDigits(registers[r])) {
            return BAD;
        }
        long rest = negativeOfSize(registers[r]);
        for (int i = 0; i < k; i++) {
            rest = rest / 10L;
        }
        return (int) -(rest % 10L);
    }

    public int root(int d, int a) {
        if (!isRegister(d) || !isRegister(a)) {
            return BAD;
        }
        if (registers[a] < 0L) {
            return ZERO;
        }
        registers[d] = squareRoot(registers[a]);
        return DONE;
    }

    public int leadingZeros(int r) {
        if (!isRegister(r)) {
            return BAD;
        }
        long value = registers[r];
        int zeros = 0;
        while (zeros < BITS && (value >>> (BITS - 1 - zeros)) == 0L) {
            zeros++;
        }
        return zeros;
    }

    public int power(int d, int a, int e) {
        if (!isRegister(d) || !isRegister(a) || !isRegister(e)) {
            return BAD;
        }
        registers[d] = raise(registers[a], registers[e]);
        return DONE;
    }

    public int divisor(int d, int a, int b) {
        if (!isRegister(d) || !isRegister(a) || !isRegister(b)) {
            return BAD;
        }
        registers[d] = commonDivisor(registers[a], registers[b]);
        return DONE;
    }

    private static boolean isRegister(int r) {
        return r >= 0 && r < REGISTERS;
    }

    private static boolean isDivision(int op) {
        return op == DIV || op == REM || op == UDIV || op == UREM;
    }

    private static long combine(int op, long left, long right) {
        switch (op) {
            case ADD:
                return left + right;
            case SUB:
                return left - right;
            case MUL:
                return left * right;
            case AND:
                return left & right;
            case OR:
                return left | right;
            case XOR:
                return left ^ right;
            // Java's shifts of a long look at the lowest six bits of the distance alone.
            case SHL:
                return left << right;
            case SHR:
                return left >> right;
            case USHR:
                return left >>> right;
            case COMPARE:
                return order(left, right);
            case UCOMPARE:
                return unsignedOrder(left, right);
            // Only MULHIGH is left: apply sends no division here.
            default:
                return upperProduct(left, right);
        }
    }

    /** Here and in unsignedQuotient, right is not 0: apply has looked. */
    private static long divide(int op, long left, long right) {
        switch (op) {
            case DIV:
                return left / right;
            case REM:
                return left % right;
            case UDIV:
                return unsignedQuotient(left, right);
            // Only UREM is left: apply sends nothing but divisions here.
            default:
                return left - unsignedQuotient(left, right) * right;
        }
    }

    private static long order(long left, long right) {
        if (left < right) {
            return -1L;
        }
        return left > right ? 1L : 0L;
    }

    private static long unsignedOrder(long left, long right) {
        // Turning the sign bit over moves 0..2^64-1 onto the signed range in the same order.
        return order(left ^ SIGN_BIT, right ^ SIGN_BIT);
    }

    private static long upperProduct(long left, long right) {
        long leftHigh = left >> HALF_BITS;
        long leftLow = left & LOW_HALF;
        long rightHigh = right >> HALF_BITS;
        long rightLow = right & LOW_HALF;
        // The two middle products are added one by one, since their sum could leave the range of long.
        long lowCarry = (leftLow * rightLow) >>> HALF_BITS;
        long middle = leftHigh * rightLow + lowCarry;
        long middleLow = leftLow * rightHigh + (middle & LOW_HALF);
        return leftHigh * rightHigh + (middle >> HALF_BITS) + (middleLow >> HALF_BITS);
    }

    private static long unsignedQuotient(long left, long right) {
        if (right < 0L) {
            // A divisor of 2^63 or more fits at most once.
            return unsignedOrder(left, right) < 0L ? 0L : 1L;
        }
        // Half of left is never negative, so Java's division serves; twice its quotient is exact or one too small.
        long quotient = ((left >>> 1) / right) << 1;
        long rest = left - quotient * right;
        return unsignedOrder(rest, right) < 0L ? quotient : quotient + 1L;
    }

    /** Minus the value without its sign: unlike the value without its sign, it is a long for every long. */
    private static long negativeOfSize(long value) {
        return value > 0L ? -value : value;
    }

    private static int countDigits(long value) {
        long rest = negativeOfSize(value);
        int count = 1;
        while (count < MOST_DIGITS && rest <= -10L) {
            rest = rest / 10L;
            count++;
        }
        return count;
    }

    private static long squareRoot(long value) {
        long found = 0L;
        for (int bit = HALF_BITS - 1; bit >= 0; bit--) {
            long candidate = found | (1L << bit);
            if (candidate <= GREATEST_ROOT && candidate * candidate <= value) {
                found = candidate;
            }
        }
        return found;
    }

    private static long raise(long base, long exponent) {
        long product = 1L;
        long square = base;
        for (int bit = 0; bit < BITS; bit++) {
            if (((exponent >>> bit) & 1L) != 0L) {
                product = product * square;
            }
            square = square * square;
        }
        return product;
    }

    private static long commonDivisor(long left, long right) {
        long current = negativeOfSize(left);
        long next = negativeOfSize(right);
        for (int step = 0; step < MOST_EUCLID_STEPS && next != 0L; step++) {
            long rest = current % next;
            current = next;
            next = rest;
        }
        // 2^63 wraps to the least long here, as it is to be stored.
        return -current;
    }
}
