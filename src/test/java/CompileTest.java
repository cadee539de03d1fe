/** Promise 10: compile. */
public final class CompileTest {
    private static final Check CHECK = new Check("promise 10, compile");

    public static void main(String[] args) {
        counts();
        notYet();
        again();
        longTexts();
        CHECK.end();
    }

    private static void compile(String text, int want) {
        CHECK.due("compile() of [" + text + "]", Check.parsed(text).compile(), want);
    }

    private static void counts() {
        compile("", 1);
        compile("{}{{}}", 1);
        compile("x=1;", 3);
        compile("print x;", 3);
        compile("x=1+2;", 5);
        compile("x=-!1;", 5);
        compile("x=1&&2;", 8);
        compile("x=1||2;", 8);
        compile("if(1){}", 3);
        compile("if(1){}else{}", 4);
        compile("while(1){}", 4);
        compile("while(1){break;next;}", 6);
        compile("x=1;y=2;print x;", 7);
    }

    private static void notYet() {
        CHECK.due("compile() of a new object", new TinyFront().compile(), -3);
        CHECK.due("compile() without parse()", Check.lexed("x=1;").compile(), -3);
        compile("x=;", -3);
        compile("break;", -3);
        compile("x=" + "-".repeat(198) + "1;", -3);
        TinyFront x = Check.parsed("x=1;");
        x.lex();
        CHECK.due("compile() behind lex()", x.compile(), -3);
        TinyFront y = Check.parsed("x=1;");
        y.feed(' ', 1);
        CHECK.due("compile() behind feed", y.compile(), -3);
        TinyFront z = Check.parsed("x=1;");
        z.clear();
        CHECK.due("compile() behind clear()", z.compile(), -3);
    }

    private static void again() {
        TinyFront x = Check.parsed("while(a||b&&c){if(a){break;}else{next;}}");
        int words = x.compile();
        CHECK.due("compile() again", x.compile(), words);
        CHECK.due("the last word", x.code(words - 1, 0), 16);
        x.clear();
        Check.feed(x, "x=1;");
        x.lex();
        x.parse();
        CHECK.due("compile() of a shorter text", x.compile(), 3);
        CHECK.due("its last word", x.code(2, 0), 16);
        CHECK.due("behind its last word", x.code(3, 0), -1);
    }

    private static void longTexts() {
        compile(("x=" + "1||".repeat(197) + "1;").repeat(6), 6 * (198 + 4 * 197 + 1) + 1);
        compile(("x=" + "1&&".repeat(197) + "1;").repeat(6), 6 * (198 + 4 * 197 + 1) + 1);
        compile("x=1;".repeat(1000), 2001);
        String many = ("x=" + "1&&".repeat(197) + "1;").repeat(6);
        TinyFront x = Check.parsed(many);
        int words = x.compile();
        CHECK.due("the last word", x.code(words - 1, 0), 16);
        CHECK.due("the last STORE", x.code(words - 2, 0), 2);
        CHECK.due("the last PUSH", x.code(words - 3, 0), 0);
        CHECK.due("the last JUMP", x.code(words - 4, 0), 13);
        CHECK.due("where it leads", x.code(words - 4, 1), words - 2);
        CHECK.due("behind the last word", x.code(words, 0), -1);
        CHECK.due("runCode(100000)", x.runCode(100000), 0);
        CHECK.due("ran(3)", x.ran(3), words - 1);
        compile("{}".repeat(2000), 1);
    }
}
