/** Promise 12: input. */
public final class InputTest {
    public static void main(String[] args) {
        Check check = new Check("promise 12, input");
        tellsTheOneBefore(check);
        noSuchSlot(check);
        runsBeginWithIt(check);
        staysUntilClear(check);
        check.end();
    }

    private static void tellsTheOneBefore(Check check) {
        TinyFront x = new TinyFront();
        for (int slot = 0; slot < 32; slot++) {
            check.due("input(" + slot + ") first", x.input(slot, 1000 + slot), 0);
        }
        for (int slot = 0; slot < 32; slot++) {
            check.due("input(" + slot + ") then", x.input(slot, -slot), 1000 + slot);
        }
        check.due("input(5, MIN)", x.input(5, Integer.MIN_VALUE), -5);
        check.due("input(5, MAX)", x.input(5, Integer.MAX_VALUE), Integer.MIN_VALUE);
        check.due("input(5, -1)", x.input(5, -1), Integer.MAX_VALUE);
        check.due("input(5, 0)", x.input(5, 0), -1);
        check.due("input(5, 0) again", x.input(5, 0), 0);
    }

    private static void noSuchSlot(Check check) {
        TinyFront x = new TinyFront();
        x.input(0, 7);
        x.input(31, 8);
        int[] wrong = {-1, 32, 33, 64, Integer.MAX_VALUE, Integer.MIN_VALUE};
        for (int slot : wrong) {
            check.due("input(" + slot + ", 5)", x.input(slot, 5), 0);
            check.due("input(" + slot + ", 6)", x.input(slot, 6), 0);
        }
        check.due("input(0, 0)", x.input(0, 0), 7);
        check.due("input(31, 0)", x.input(31, 0), 8);
    }

    private static void runsBeginWithIt(Check check) {
        TinyFront x = Check.compiled("a=a+b;print a;");
        x.input(0, 10);
        x.input(1, 3);
        for (int turn = 0; turn < 2; turn++) {
            x.runTree(100);
            check.due("out(0) by the tree", x.out(0), 13);
            x.runCode(100);
            check.due("out(0) by the code", x.out(0), 13);
        }
        check.due("input(0, 20): a run does not change it", x.input(0, 20), 10);
        check.due("value(0) stays that of the run", x.value(0), 13);
        x.runTree(100);
        check.due("out(0) by the tree", x.out(0), 23);
        x.runCode(100);
        check.due("out(0) by the code", x.out(0), 23);
        check.due("value(1)", x.value(1), 3);
    }

    private static void staysUntilClear(Check check) {
        TinyFront x = new TinyFront();
        x.input(0, 4);
        Check.feed(x, "print a;");
        x.lex();
        x.parse();
        x.compile();
        x.runTree(9);
        check.due("out(0)", x.out(0), 4);
        x.lex();
        x.parse();
        x.runTree(9);
        check.due("out(0) behind lex()", x.out(0), 4);
        x.clear();
        Check.feed(x, "print a;");
        x.lex();
        x.parse();
        x.runTree(9);
        check.due("out(0) behind clear()", x.out(0), 0);
        check.due("input(0, 1) behind clear()", x.input(0, 1), 0);
    }
}
