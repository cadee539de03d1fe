/** Promise 11: code. */
public final class CodeTest {
    private static final int PUSH = 0;
    private static final int LOAD = 1;
    private static final int STORE = 2;
    private static final int TRUTH = 12;
    private static final int JUMP = 13;
    private static final int UNLESS = 14;
    private static final int OUT = 15;
    private static final int HALT = 16;
    private static final Check CHECK = new Check("promise 11, code");

    public static void main(String[] args) {
        plainExps();
        shortCuts();
        choices();
        loops();
        wrongOnes();
        anewCodes();
        longJumps();
        CHECK.end();
    }

    /** Words and operands by turns. */
    private static void words(String text, int... want) {
        TinyFront x = Check.parsed(text);
        CHECK.due("compile() of [" + text + "]", x.compile(), want.length / 2);
        for (int i = 0; i < want.length / 2; i++) {
            CHECK.due("code(" + i + ", 0) of [" + text + "]", x.code(i, 0), want[2 * i]);
            CHECK.due("code(" + i + ", 1) of [" + text + "]", x.code(i, 1), want[2 * i + 1]);
        }
        CHECK.due("behind all of [" + text + "]", x.code(want.length / 2, 0), -1);
    }

    private static void plainExps() {
        words("", HALT, 0);
        words("x=7;", PUSH, 7, STORE, 0, HALT, 0);
        words("a=b;c=a;", LOAD, 1, STORE, 0, LOAD, 0, STORE, 2, HALT, 0);
        words("print 4294967295;", PUSH, -1, OUT, 0, HALT, 0);
        words("print 2147483648;", PUSH, Integer.MIN_VALUE, OUT, 0, HALT, 0);
        String[] signs = {"+", "-", "*", "/", "%", "==", "<"};
        for (int i = 0; i < signs.length; i++) {
            words("print a" + signs[i] + "5;", LOAD, 0, PUSH, 5, 3 + i, 0, OUT, 0, HALT, 0);
        }
        words("print -a;", LOAD, 0, 10, 0, OUT, 0, HALT, 0);
        words("print !a;", LOAD, 0, 11, 0, OUT, 0, HALT, 0);
        words("print 1-(2-3);", PUSH, 1, PUSH, 2, PUSH, 3, 4, 0, 4, 0, OUT, 0, HALT, 0);
        words("print 1-2-3;", PUSH, 1, PUSH, 2, 4, 0, PUSH, 3, 4, 0, OUT, 0, HALT, 0);
    }

    private static void shortCuts() {
        words("print a&&b;", LOAD, 0, UNLESS, 5, LOAD, 1, TRUTH, 0, JUMP, 6, PUSH, 0,
            OUT, 0, HALT, 0);
        words("print a||b;", LOAD, 0, UNLESS, 4, PUSH, 1, JUMP, 6, LOAD, 1, TRUTH, 0,
            OUT, 0, HALT, 0);
        words("x=1;print a||b&&3;", PUSH, 1, STORE, 0, LOAD, 1, UNLESS, 6, PUSH, 1, JUMP, 13,
            LOAD, 2, UNLESS, 11, PUSH, 3, TRUTH, 0, JUMP, 12, PUSH, 0, TRUTH, 0,
            OUT, 0, HALT, 0);
        words("print (a+1)&&-b;", LOAD, 0, PUSH, 1, 3, 0, UNLESS, 8, LOAD, 1, 10, 0,
            TRUTH, 0, JUMP, 9, PUSH, 0, OUT, 0, HALT, 0);
    }

    private static void choices() {
        words("if(a){}", LOAD, 0, UNLESS, 2, HALT, 0);
        words("if(a){b=1;}", LOAD, 0, UNLESS, 4, PUSH, 1, STORE, 1, HALT, 0);
        words("if(a){}else{}", LOAD, 0, UNLESS, 3, JUMP, 3, HALT, 0);
        words("if(a){b=1;}else{b=2;}", LOAD, 0, UNLESS, 5, PUSH, 1, STORE, 1, JUMP, 7,
            PUSH, 2, STORE, 1, HALT, 0);
        words("if(a){if(b){}else{}}", LOAD, 0, UNLESS, 5, LOAD, 1, UNLESS, 5, JUMP, 5, HALT, 0);
    }

    private static void loops() {
        words("while(a){}", LOAD, 0, UNLESS, 3, JUMP, 0, HALT, 0);
        words("while(a){break;next;}print 1;", LOAD, 0, UNLESS, 5, JUMP, 5, JUMP, 0, JUMP, 0,
            PUSH, 1, OUT, 0, HALT, 0);
        words("print 1;while(a<3){while(b){break;}if(a){next;}break;}",
            PUSH, 1, OUT, 0,
            LOAD, 0, PUSH, 3, 9, 0, UNLESS, 15,
            LOAD, 1, UNLESS, 10, JUMP, 10, JUMP, 6,
            LOAD, 0, UNLESS, 13, JUMP, 2,
            JUMP, 15, JUMP, 2,
            HALT, 0);
    }

    private static void wrongOnes() {
        TinyFront x = Check.parsed("x=7;");
        CHECK.due("code(0, 0) before compile()", x.code(0, 0), -1);
        x.compile();
        int[] wrong = {-1, 3, 4, 8001, 100000, Integer.MAX_VALUE, Integer.MIN_VALUE};
        for (int i : wrong) {
            CHECK.due("code(" + i + ", 0)", x.code(i, 0), -1);
            CHECK.due("code(" + i + ", 1)", x.code(i, 1), -1);
        }
        int[] whats = {-1, 2, 3, Integer.MAX_VALUE, Integer.MIN_VALUE};
        for (int what : whats) {
            CHECK.due("code(0, " + what + ")", x.code(0, what), -1);
        }
        x.parse();
        CHECK.due("code(0, 0) behind parse()", x.code(0, 0), -1);
    }

    /** Nothing of an earlier code shines through. */
    private static void anew(String text, int... want) {
        TinyFront x = Check.compiled("a=7;b=8;c=9;d=a;e=b;");
        x.clear();
        Check.feed(x, text);
        x.lex();
        x.parse();
        CHECK.due("compile() of [" + text + "] anew", x.compile(), want.length / 2);
        for (int i = 0; i < want.length / 2; i++) {
            CHECK.due("code(" + i + ", 0) of [" + text + "] anew", x.code(i, 0), want[2 * i]);
            CHECK.due("code(" + i + ", 1) of [" + text + "] anew", x.code(i, 1), want[2 * i + 1]);
        }
        CHECK.due("behind all of [" + text + "] anew", x.code(want.length / 2, 0), -1);
    }

    private static void anewCodes() {
        anew("", HALT, 0);
        anew("print !-!1;", PUSH, 1, 11, 0, 10, 0, 11, 0, OUT, 0, HALT, 0);
        anew("print x&&y;", LOAD, 0, UNLESS, 5, LOAD, 1, TRUTH, 0, JUMP, 6, PUSH, 0,
            OUT, 0, HALT, 0);
        anew("print x||y;", LOAD, 0, UNLESS, 4, PUSH, 1, JUMP, 6, LOAD, 1, TRUTH, 0,
            OUT, 0, HALT, 0);
        anew("while(x){}", LOAD, 0, UNLESS, 3, JUMP, 0, HALT, 0);
        anew("if(x){}else{}", LOAD, 0, UNLESS, 3, JUMP, 3, HALT, 0);
    }

    private static void longJumps() {
        TinyFront x = Check.compiled("while(1){" + "x=1;".repeat(990) + "}");
        CHECK.due("code(1, 1)", x.code(1, 1), 1983);
        CHECK.due("code(1982, 0)", x.code(1982, 0), JUMP);
        CHECK.due("code(1982, 1)", x.code(1982, 1), 0);
        CHECK.due("code(1983, 0)", x.code(1983, 0), HALT);
    }
}
