/** Promise 2: feed. */
public final class FeedTest {
    public static void main(String[] args) {
        Check check = new Check("promise 2, feed");
        highestByteFirst(check);
        onlyTheLowestBytes(check);
        wrongCounts(check);
        fullAt4000(check);
        forgetsWhatWasKnown(check);
        keepsWhatIsNotOfTheText(check);
        refusedFeedChangesNothing(check);
        check.end();
    }

    private static void highestByteFirst(Check check) {
        TinyFront x = new TinyFront();
        check.due("feed(\"ab=\", 3)", x.feed(Check.pack("ab="), 3), 3);
        check.due("feed(\"12345678\", 8)", x.feed(Check.pack("12345678"), 8), 11);
        check.due("feed(\";\", 1)", x.feed(';', 1), 12);
        check.due("lex()", x.lex(), 4);
        check.due("the name's size", x.token(0, 2), 2);
        check.due("the sign's place", x.token(1, 1), 2);
        check.due("the number", x.token(2, 3), 12345678);
        check.due("the last sign", x.token(3, 0), 20);
    }

    private static void onlyTheLowestBytes(Check check) {
        for (int n = 1; n <= 8; n++) {
            TinyFront x = new TinyFront();
            check.due("feed of " + n, x.feed(Check.pack("12345678"), n), n);
            x.lex();
            int worth = Integer.parseInt("12345678".substring(8 - n));
            check.due("the lowest " + n + " bytes", x.token(0, 3), worth);
        }
        TinyFront x = new TinyFront();
        x.feed(-1L, 8);
        check.due("a byte of 255", x.lex(), -10);
        TinyFront y = new TinyFront();
        y.feed((long) '#' << 56 | 0x00FFFE80C1F20AL, 8);
        y.feed('7', 1);
        check.due("high bytes in a remark", y.lex(), 1);
        check.due("the number behind it", y.token(0, 1), 8);
    }

    private static void wrongCounts(Check check) {
        TinyFront x = new TinyFront();
        int[] wrong = {0, -1, 9, 16, Integer.MAX_VALUE, Integer.MIN_VALUE};
        for (int n : wrong) {
            check.due("feed(49, " + n + ")", x.feed(49, n), -1);
        }
        check.due("clear() behind them", x.clear(), 0);
    }

    private static void fullAt4000(Check check) {
        TinyFront x = new TinyFront();
        for (int i = 1; i <= 499; i++) {
            check.due("feed " + i, x.feed(Check.pack("        "), 8), 8L * i);
        }
        check.due("a feed to 3999", x.feed(Check.pack("       "), 7), 3999);
        check.due("a feed to 4001", x.feed(Check.pack("12"), 2), -2);
        check.due("another to 4007", x.feed(Check.pack("12345678"), 8), -2);
        check.due("n = 9 at the edge", x.feed(0, 9), -1);
        check.due("a feed to 4000", x.feed('7', 1), 4000);
        check.due("a feed to 4001 again", x.feed('8', 1), -2);
        check.due("lex() of 4000 bytes", x.lex(), 1);
        check.due("the last byte's place", x.token(0, 1), 3999);
        check.due("the last byte", x.token(0, 3), 7);
        check.due("clear()", x.clear(), 4000);
    }

    private static void forgetsWhatWasKnown(Check check) {
        TinyFront x = Check.compiled("x=1;");
        check.due("code before", x.code(0, 0), 0);
        check.due("feed", x.feed(' ', 1), 5);
        check.due("token(0, 0)", x.token(0, 0), -1);
        check.due("slots()", x.slots(), 0);
        check.due("node(0, 0)", x.node(0, 0), -1);
        check.due("code(0, 0)", x.code(0, 0), -1);
        check.due("parse()", x.parse(), -3);
        check.due("compile()", x.compile(), -3);
        check.due("runTree(9)", x.runTree(9), -3);
        check.due("runCode(9)", x.runCode(9), -3);
        check.due("lex() of both", x.lex(), 4);
    }

    private static void keepsWhatIsNotOfTheText(Check check) {
        TinyFront x = Check.compiled("x=x+1;print x;");
        x.input(0, 6);
        x.runTree(100);
        x.feed(' ', 1);
        check.due("reduced(-1)", x.reduced(-1) > 0 ? 1 : 0, 1);
        check.due("ran(0)", x.ran(0), 0);
        check.due("ran(1)", x.ran(1), 6);
        check.due("out(0)", x.out(0), 7);
        check.due("value(0)", x.value(0), 7);
        check.due("input(0, 1)", x.input(0, 1), 6);
    }

    private static void refusedFeedChangesNothing(Check check) {
        TinyFront x = Check.compiled("x=1;");
        check.due("feed(32, 0)", x.feed(' ', 0), -1);
        check.due("token(0, 0) behind BAD", x.token(0, 0), 1);
        check.due("node(0, 0) behind BAD", x.node(0, 0), 0);
        check.due("code(0, 0) behind BAD", x.code(0, 0), 0);
        TinyFront y = Check.compiled("x=1;" + " ".repeat(3996));
        check.due("feed(32, 1)", y.feed(' ', 1), -2);
        check.due("token(0, 0) behind FULL", y.token(0, 0), 1);
        check.due("node(0, 0) behind FULL", y.node(0, 0), 0);
        check.due("code(0, 0) behind FULL", y.code(0, 0), 0);
    }
}
