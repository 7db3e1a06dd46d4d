import java.math.BigInteger;

/** What the tests share: the comparison of answers, numbers to try, and looks at the whole state. */
final class Checks {
    static final int REGISTERS = 6;
    static final int[] NO_REGISTERS = {-1, 6, 7, -6, 32, 64, 256, 65536, Integer.MIN_VALUE, Integer.MAX_VALUE};
    static final BigInteger TWO_64 = BigInteger.ONE.shiftLeft(64);

    private static final long[] START = {
        1234567890123L, -77L, 0L, Long.MIN_VALUE, Long.MAX_VALUE, 0x80000000L};

    private static int answers = 0;
    private static int wrong = 0;

    private Checks() {
    }

    static void due(String call, long got, long want) {
        answers++;
        if (got != want) {
            wrong++;
            System.out.println(call + " answered " + got + ", due is " + want);
        }
    }

    static void due(String call, boolean got, boolean want) {
        due(call, got ? 1L : 0L, want ? 1L : 0L);
    }

    /** Runs the test of one sentence of the document, given in the document's words, and counts for it alone. */
    static void sentence(String words, Runnable test) {
        int answersBefore = answers;
        int wrongBefore = wrong;
        test.run();
        int looked = answers - answersBefore;
        if (looked == 0) {
            wrong++;
        }
        System.out.println("\"" + words + "\": " + looked + " answers, " + (wrong - wrongBefore) + " not as due");
    }

    static void end() {
        System.out.println(answers + " answers, " + wrong + " not as due");
        if (wrong != 0 || answers == 0) {
            System.exit(1);
        }
    }

    /** An object with a different value in each register. */
    static HalfWords filled() {
        HalfWords x = new HalfWords();
        for (int r = 0; r < REGISTERS; r++) {
            x.set(r, START[r]);
        }
        return x;
    }

    /** A filled object with these values in registers a and b (the value of b wins where a is b). */
    static HalfWords filled(int a, long left, int b, long right) {
        HalfWords x = filled();
        x.set(a, left);
        x.set(b, right);
        return x;
    }

    static long[] state(HalfWords x) {
        long[] state = new long[REGISTERS];
        for (int r = 0; r < REGISTERS; r++) {
            state[r] = x.get(r);
        }
        return state;
    }

    static void unchanged(String call, HalfWords x, long[] before) {
        for (int r = 0; r < REGISTERS; r++) {
            due("after " + call + ": get(" + r + ")", x.get(r), before[r]);
        }
    }

    static void changed(String call, HalfWords x, long[] before, int d, long want) {
        long[] after = before.clone();
        after[d] = want;
        unchanged(call, x, after);
    }

    static BigInteger signed(long value) {
        return BigInteger.valueOf(value);
    }

    static BigInteger unsigned(long value) {
        return BigInteger.valueOf(value).mod(TWO_64);
    }

    /** Powers of 2 and of 10 and their neighbours with both signs, small numbers, and numbers without a pattern. */
    static long[] values() {
        long[] values = new long[700];
        int count = 0;
        for (int small = -12; small <= 12; small++) {
            values[count++] = small;
        }
        for (int bit = 4; bit < 64; bit++) {
            long power = 1L << bit;
            count = addAround(values, count, power);
        }
        long power = 1L;
        for (int k = 0; k < 19; k++) {
            count = addAround(values, count, power);
            power *= 10L;
        }
        long next = 88172645463325252L;
        while (count < values.length) {
            next ^= next << 13;
            next ^= next >>> 7;
            next ^= next << 17;
            values[count] = next >> (count * 7 % 64);
            count++;
        }
        return values;
    }

    /** Few enough of the values to try each with each other one under each operation. */
    static long[] edges() {
        return new long[] {
            0L, 1L, -1L, 2L, -2L, 3L, -3L, 7L, 9L, 10L, -10L, 31L, 32L, 33L, 63L, 64L, 65L, 127L, -32L, -63L, -64L,
            99L, 100L, 0x7FFFFFFFL, 0x80000000L, 0x80000001L, 0xFFFFFFFEL, 0xFFFFFFFFL, 0x100000000L, 0x100000001L,
            -0x7FFFFFFFL, -0x80000000L, -0x80000001L, -0xFFFFFFFFL, -0x100000000L, -0x100000001L,
            0x7FFFFFFF00000000L, 0x7FFFFFFF80000000L, 0x7FFFFFFFFFFFFFFEL, Long.MAX_VALUE, Long.MIN_VALUE,
            Long.MIN_VALUE + 1, Long.MIN_VALUE + 2, 0x80000000FFFFFFFFL, 0xC000000000000000L, 0x4000000000000000L,
            0x4000000000000001L, 0xFFFFFFFF00000001L, 3037000499L, 3037000500L, 1000000007L, -1000000007L,
            123456789012345678L, -123456789012345678L, 0x0123456789ABCDEFL, 0xFEDCBA9876543210L,
            0x5555555555555555L, 0xAAAAAAAAAAAAAAAAL, 1000000000000000000L, 6148914691236517205L};
    }

    private static int addAround(long[] values, int count, long middle) {
        values[count++] = middle - 1;
        values[count++] = middle;
        values[count++] = middle + 1;
        values[count++] = -middle - 1;
        values[count++] = -middle;
        values[count++] = -middle + 1;
        return count;
    }
}
