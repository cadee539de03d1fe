/** Promise 3: clear. */
public final class ClearTest {
    public static void main(String[] args) {
        Check check = new Check("promise 3, clear");
        tellsHowManyBytes(check);
        forgetsTextInputsAndRuns(check);
        textIsFreshBehindIt(check);
        check.end();
    }

    private static void tellsHowManyBytes(Check check) {
        TinyFront x = new TinyFront();
        check.due("clear() of none", x.clear(), 0);
        Check.feed(x, "print 12;");
        check.due("clear() of 9", x.clear(), 9);
        check.due("clear() again", x.clear(), 0);
        check.due("feed behind it", x.feed('a', 1), 1);
        TinyFront y = Check.fed("#".repeat(4000));
        check.due("clear() of 4000", y.clear(), 4000);
        check.due("feed behind it", y.feed('a', 1), 1);
    }

    private static void forgetsTextInputsAndRuns(Check check) {
        TinyFront x = new TinyFront();
        for (int slot = 0; slot < 32; slot++) {
            x.input(slot, slot + 100);
        }
        Check.feed(x, "a=a+1;print a;");
        x.lex();
        x.parse();
        x.compile();
        x.runCode(100);
        int told = x.reduced(-1);
        check.due("value(0) before", x.value(0), 101);
        check.due("clear()", x.clear(), 14);
        for (int what = 0; what <= 3; what++) {
            check.due("ran(" + what + ")", x.ran(what), -1);
        }
        check.due("out(0)", x.out(0), 0);
        for (int slot = 0; slot < 32; slot++) {
            check.due("value(" + slot + ")", x.value(slot), 0);
            check.due("input(" + slot + ", 0)", x.input(slot, 0), 0);
        }
        check.due("token(0, 0)", x.token(0, 0), -1);
        check.due("slots()", x.slots(), 0);
        check.due("node(0, 0)", x.node(0, 0), -1);
        check.due("code(0, 0)", x.code(0, 0), -1);
        check.due("parse()", x.parse(), -3);
        check.due("compile()", x.compile(), -3);
        check.due("runTree(1)", x.runTree(1), -3);
        check.due("runCode(1)", x.runCode(1), -3);
        check.due("reduced(-1) stays", x.reduced(-1), told);
    }

    private static void textIsFreshBehindIt(Check check) {
        TinyFront x = Check.compiled("abc=5;print abc;");
        x.runTree(50);
        x.clear();
        Check.feed(x, "b=c;");
        check.due("lex()", x.lex(), 4);
        check.due("slots()", x.slots(), 2);
        check.due("token(0, 2)", x.token(0, 2), 1);
        check.due("parse()", x.parse(), 3);
        check.due("runTree(9)", x.runTree(9), 0);
        check.due("value(0)", x.value(0), 0);
        check.due("ran(2)", x.ran(2), 0);
    }
}
