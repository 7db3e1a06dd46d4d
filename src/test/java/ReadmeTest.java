/** The example of README.md, call by call. */
public final class ReadmeTest {
    public static void main(String[] args) {
        HalfWords x = new HalfWords();
        Checks.due("set(0, 1000000007)", x.set(0, 1000000007L), true);
        Checks.due("typeDigit(1, 4)", x.typeDigit(1, 4), 1);
        Checks.due("typeDigit(1, 2)", x.typeDigit(1, 2), 1);
        Checks.due("get(1)", x.get(1), 42L);
        Checks.due("apply(MUL, 2, 0, 1)", x.apply(HalfWords.MUL, 2, 0, 1), 1);
        Checks.due("get(2)", x.get(2), 42000000294L);
        Checks.due("digits(2)", x.digits(2), 11);
        Checks.due("digit(2, 0)", x.digit(2, 0), 4);
        Checks.due("root(3, 2)", x.root(3, 2), 1);
        Checks.due("get(3)", x.get(3), 204939L);
        Checks.due("power(4, 1, 5)", x.power(4, 1, 5), 1);
        Checks.due("get(4)", x.get(4), 1L);
        Checks.due("divisor(5, 2, 1)", x.divisor(5, 2, 1), 1);
        Checks.due("get(5)", x.get(5), 42L);
        Checks.due("leadingZeros(1)", x.leadingZeros(1), 58);
        Checks.due("apply(ADD, 6, 0, 1)", x.apply(HalfWords.ADD, 6, 0, 1), HalfWords.BAD);
        Checks.due("set(5, 0)", x.set(5, 0L), true);
        Checks.due("apply(DIV, 2, 0, 5)", x.apply(HalfWords.DIV, 2, 0, 5), HalfWords.ZERO);
        Checks.due("get(2) after ZERO", x.get(2), 42000000294L);
        Checks.end();
    }
}
