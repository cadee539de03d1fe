/** Promise 4: lex. */
public final class LexTest {
    private static final Check CHECK = new Check("promise 4, lex");

    public static void main(String[] args) {
        counts();
        blanksAndRemarks();
        longestMatch();
        errors();
        longNames();
        manySlots();
        everyByte();
        endsWithTheText();
        forgets();
        CHECK.end();
    }

    private static void lex(String text, int want) {
        CHECK.due("lex() of [" + text + "]", Check.fed(text).lex(), want);
    }

    private static void counts() {
        lex("", 0);
        lex("x", 1);
        lex("x=1;", 4);
        lex("print if else while break next", 6);
        lex("||&&==<+-*/%!=;(){}", 16);
        lex(";".repeat(4000), 4000);
        lex("1".repeat(4000), 1);
        lex(" ".repeat(4000), 0);
    }

    private static void blanksAndRemarks() {
        lex(" \t\n\r ", 0);
        lex("# all of it x=1;", 0);
        lex("# to the line's end\nx", 1);
        lex("#\r x", 0);
        lex("##\n#\nx#y\nz", 2);
        lex("a#\u0000\u00ff$\nb", 2);
        lex("\u000b", -10);
        lex("\u000c", -10);
        lex("\u0000", -10);
        lex(" \u00a0", -11);
    }

    private static void longestMatch() {
        lex("===", 2);
        lex("====", 2);
        lex("=====", 3);
        lex("<=", 2);
        lex("!==", 2);
        lex("!=", 2);
        lex("||||", 2);
        lex("&&&&", 2);
        lex("12ab", 2);
        lex("ab12", 1);
        lex("_1_a", 1);
        lex("printx", 1);
        lex("print1", 1);
        lex("Print", 1);
        lex("if(while)", 4);
    }

    private static void errors() {
        lex("|", -10);
        lex("&", -10);
        lex("|||", -12);
        lex("x & y", -12);
        lex("x |& y", -12);
        lex("a > b", -12);
        lex("x=1;$", -14);
        lex("x=1.5;", -13);
        lex("a[1]", -11);
        lex("ab\u0080", -12);
        lex(" ".repeat(3999) + "?", -4009);
        lex("? ?", -10);
    }

    private static void longNames() {
        lex("abcdefghijklmnop", 1);
        lex("abcdefghijklmnopq", -10);
        lex("x=abcdefghijklmnop;", 4);
        lex("x=abcdefghijklmnopq;", -12);
        lex("_234567890123456", 1);
        lex("_2345678901234567", -10);
        lex("a".repeat(4000), -10);
        lex("printprintprint12", -10);
        lex("12345678901234567890", 1);
        lex("abcdefghijklmnopq ?", -10);
    }

    private static void manySlots() {
        String names = "";
        for (int i = 0; i < 32; i++) {
            names = names + "n" + i + " ";
        }
        lex(names, 32);
        lex(names + "n0 n31 print while", 36);
        lex(names + "x", -10 - names.length());
        lex(names + "n32", -10 - names.length());
        lex(names + "n0 if N0", -10 - names.length() - 6);
        lex(names + "? x", -10 - names.length());
    }

    private static void everyByte() {
        String blanks = "\t\n\r #";
        String begins = "<+-*/%!=;(){}_";
        for (char b = 0; b < 256; b++) {
            boolean letter = b >= 'a' && b <= 'z' || b >= 'A' && b <= 'Z';
            boolean token = letter || b >= '0' && b <= '9' || begins.indexOf(b) >= 0;
            int want = token ? 2 : blanks.indexOf(b) >= 0 ? 1 : -11;
            CHECK.due("lex() of ; and byte " + (int) b, Check.fed(";" + b).lex(), want);
        }
    }

    /** Neither the bytes of an earlier text nor the end of all room come to the last token. */
    private static void endsWithTheText() {
        String[] ends = {"=", "|", "&", "a", "7", "prin", "#"};
        int[] want = {1, -10, -10, 1, 1, 1, 0};
        for (int i = 0; i < ends.length; i++) {
            TinyFront x = Check.fed(ends[i] + ends[i].charAt(0) + "t?");
            x.lex();
            x.clear();
            Check.feed(x, ends[i]);
            CHECK.due("lex() of [" + ends[i] + "] behind clear()", x.lex(), want[i]);
            CHECK.due("its size", x.token(0, 2), want[i] < 0 ? -1 : want[i] * ends[i].length());
            int last = want[i] < 0 ? -10 - 3999 : want[i];
            lex(" ".repeat(4000 - ends[i].length()) + ends[i], last);
        }
    }

    private static void forgets() {
        TinyFront x = Check.compiled("print 5;");
        x.input(3, 33);
        x.runTree(9);
        CHECK.due("ran(0) before", x.ran(0), 0);
        CHECK.due("lex() again", x.lex(), 3);
        CHECK.due("node(0, 0)", x.node(0, 0), -1);
        CHECK.due("code(0, 0)", x.code(0, 0), -1);
        CHECK.due("compile()", x.compile(), -3);
        CHECK.due("runTree(1)", x.runTree(1), -3);
        CHECK.due("runCode(1)", x.runCode(1), -3);
        CHECK.due("ran(0)", x.ran(0), -1);
        CHECK.due("out(0)", x.out(0), 0);
        CHECK.due("value(3)", x.value(3), 0);
        CHECK.due("input(3, 1) stays", x.input(3, 1), 33);
        CHECK.due("reduced(-1) stays", x.reduced(-1), 10);
        x.feed('?', 1);
        CHECK.due("lex() with an ERROR", x.lex(), -18);
        CHECK.due("token(0, 0)", x.token(0, 0), -1);
        CHECK.due("slots()", x.slots(), 0);
        CHECK.due("parse()", x.parse(), -3);
        CHECK.due("lex() with the ERROR again", x.lex(), -18);
        TinyFront y = Check.parsed("print 5;");
        y.runTree(9);
        y.feed('?', 1);
        CHECK.due("ran(0) before lex()", y.ran(0), 0);
        CHECK.due("lex() with an ERROR", y.lex(), -18);
        CHECK.due("ran(0) behind an ERROR", y.ran(0), -1);
        CHECK.due("out(0) behind an ERROR", y.out(0), 0);
    }
}
