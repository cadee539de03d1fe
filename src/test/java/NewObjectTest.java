/** Promise 1: a new object has no text, and nothing is told of it. */
public final class NewObjectTest {
    public static void main(String[] args) {
        Check check = new Check("promise 1, a new object");
        nothingIsTold(check);
        noTextIsThere(check);
        objectsShareNothing(check);
        check.due("BAD", TinyFront.BAD, -1);
        check.due("FULL", TinyFront.FULL, -2);
        check.due("NOT_YET", TinyFront.NOT_YET, -3);
        check.end();
    }

    private static void nothingIsTold(Check check) {
        TinyFront x = new TinyFront();
        for (int what = 0; what <= 3; what++) {
            check.due("token(0, " + what + ")", x.token(0, what), -1);
            check.due("ran(" + what + ")", x.ran(what), -1);
        }
        for (int what = 0; what <= 5; what++) {
            check.due("node(0, " + what + ")", x.node(0, what), -1);
        }
        check.due("code(0, 0)", x.code(0, 0), -1);
        check.due("code(0, 1)", x.code(0, 1), -1);
        check.due("slots()", x.slots(), 0);
        check.due("reduced(-1)", x.reduced(-1), 0);
        check.due("reduced(0)", x.reduced(0), -1);
        check.due("parse()", x.parse(), -3);
        check.due("reduced(-1) after NOT_YET", x.reduced(-1), 0);
        check.due("compile()", x.compile(), -3);
        check.due("runTree(5)", x.runTree(5), -3);
        check.due("runCode(5)", x.runCode(5), -3);
        check.due("out(0)", x.out(0), 0);
        for (int slot = 0; slot < 32; slot++) {
            check.due("value(" + slot + ")", x.value(slot), 0);
            check.due("input(" + slot + ", 0)", x.input(slot, 0), 0);
        }
    }

    private static void noTextIsThere(Check check) {
        check.due("clear() first", new TinyFront().clear(), 0);
        check.due("feed first", new TinyFront().feed('x', 1), 1);
        TinyFront x = new TinyFront();
        check.due("lex() of no text", x.lex(), 0);
        check.due("token(0, 0) is THE END", x.token(0, 0), 0);
        check.due("token(0, 1)", x.token(0, 1), 0);
        check.due("token(1, 0)", x.token(1, 0), -1);
        check.due("parse() of no text", x.parse(), 1);
        check.due("compile() of no text", x.compile(), 1);
        check.due("runTree(0) of no text", x.runTree(0), 0);
        check.due("ran(3)", x.ran(3), -1);
        check.due("runCode(0) of no text", x.runCode(0), 1);
        check.due("runCode(1) of no text", x.runCode(1), 0);
        check.due("ran(3)", x.ran(3), 0);
    }

    private static void objectsShareNothing(Check check) {
        TinyFront x = Check.compiled("x=3;print x;");
        x.input(1, 9);
        x.runTree(100);
        TinyFront y = new TinyFront();
        check.due("clear() of another object", y.clear(), 0);
        check.due("input(1, 0) of another object", y.input(1, 0), 0);
        check.due("reduced(-1) of another object", y.reduced(-1), 0);
        check.due("ran(0) of another object", y.ran(0), -1);
        check.due("ran(0) of the first", x.ran(0), 0);
        check.due("value(0) of the first", x.value(0), 3);
    }
}
