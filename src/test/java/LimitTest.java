/** The number of calls that an object is made for: each of them is answered as the document asks. */
public final class LimitTest {
    private static final int CALLS = 512;
    private static final int RUNS = 400;

    private static long next = 88172645463325252L;

    public static void main(String[] args) {
        Checks.sentence("An object is used for at most 512 calls after it has been made", LimitTest::allCalls);
        Checks.end();
    }

    private static void allCalls() {
        kept();
        counted();
        for (int kind = 0; kind < 10; kind++) {
            oneKind(kind);
        }
        for (int run = 0; run < RUNS; run++) {
            mixed(run);
        }
    }

    private static void kept() {
        HalfWords x = new HalfWords();
        x.set(5, Long.MIN_VALUE);
        for (int n = 2; n <= CALLS; n++) {
            Checks.due("call " + n + ", get(5)", x.get(5), Long.MIN_VALUE);
        }
    }

    /** The 512th call shows that none of those before it was lost. */
    private static void counted() {
        HalfWords x = new HalfWords();
        x.set(1, 1L);
        for (int n = 2; n < CALLS; n++) {
            Checks.due("call " + n + ", apply(ADD, 0, 0, 1)", x.apply(HalfWords.ADD, 0, 0, 1), 1);
        }
        Checks.due("call " + CALLS + ", get(0)", x.get(0), CALLS - 2);
    }

    private static void oneKind(int kind) {
        HalfWords x = new HalfWords();
        Model model = new Model();
        for (int n = 1; n <= CALLS; n++) {
            // A dozen calls of set first, so that the others meet other numbers than 0.
            call("calls of one kind, call " + n, n <= 12 ? 0 : kind, x, model);
        }
    }

    private static void mixed(int run) {
        HalfWords x = new HalfWords();
        Model model = new Model();
        for (int n = 1; n <= CALLS; n++) {
            // Half of the calls look at a register, so that no wrong change stays unseen for long.
            int kind = n % 2 == 0 ? 1 : below(10);
            call("run " + run + ", call " + n, kind, x, model);
        }
    }

    private static void call(String place, int kind, HalfWords x, Model model) {
        int p = register();
        int q = register();
        int r = register();
        String about = place + ", kind " + kind + " with " + p + ", " + q + ", " + r;
        switch (kind) {
            case 0: {
                long value = number();
                Checks.due(about + " and " + value, x.set(p, value), model.set(p, value));
                break;
            }
            case 1:
                Checks.due(about, x.get(p), model.get(p));
                break;
            case 2: {
                int op = below(20) == 0 ? below(40) - 12 : below(16);
                Checks.due(about + " and " + op, x.apply(op, p, q, r), model.apply(op, p, q, r));
                break;
            }
            case 3: {
                int digit = below(12) - 1;
                Checks.due(about + " and " + digit, x.typeDigit(p, digit), model.typeDigit(p, digit));
                break;
            }
            case 4:
                Checks.due(about, x.digits(p), model.digits(p));
                break;
            case 5: {
                int k = below(21) - 1;
                Checks.due(about + " and " + k, x.digit(p, k), model.digit(p, k));
                break;
            }
            case 6:
                Checks.due(about, x.root(p, q), model.root(p, q));
                break;
            case 7:
                Checks.due(about, x.leadingZeros(p), model.leadingZeros(p));
                break;
            case 8:
                Checks.due(about, x.power(p, q, r), model.power(p, q, r));
                break;
            default:
                Checks.due(about, x.divisor(p, q, r), model.divisor(p, q, r));
                break;
        }
    }

    /** A row of numbers that is the same in each run of the test. */
    private static long step() {
        next ^= next << 13;
        next ^= next >>> 7;
        next ^= next << 17;
        return next;
    }

    private static int below(int bound) {
        return (int) Long.remainderUnsigned(step() >>> 11, bound);
    }

    private static int register() {
        return below(30) == 0 ? below(20) - 7 : below(Checks.REGISTERS);
    }

    private static long number() {
        long[] edges = Checks.edges();
        if (below(2) == 0) {
            return edges[below(edges.length)];
        }
        return step() >> below(64);
    }
}
