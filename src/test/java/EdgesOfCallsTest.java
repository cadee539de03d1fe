import java.io.IOException;

/** The edges that the document names under Promise 1 to Promise 17, sentence by sentence. */
public final class EdgesOfCallsTest {
    private static final int LEAST = Integer.MIN_VALUE;
    private static final int MOST = Integer.MAX_VALUE;

    private final Sentences doc;

    private EdgesOfCallsTest() throws IOException {
        doc = new Sentences("the edges of calls");
    }

    public static void main(String[] args) throws IOException {
        EdgesOfCallsTest test = new EdgesOfCallsTest();
        test.newObject();
        test.feedOfAnotherN();
        test.feedBeyond4000();
        test.feedForgets();
        test.clearForgets();
        test.lexWithAnError();
        test.tokenThatThereIsNoneOf();
        test.slotsWithoutTokens();
        test.parseNotYet();
        test.parseOfAWrongToken();
        test.parseOfAStray();
        test.parseTellsWhatWasReduced();
        test.reducedOfAnotherText();
        test.reducedThatThereIsNoneOf();
        test.nodeThatThereIsNoneOf();
        test.compileNotYet();
        test.codeThatThereIsNoneOf();
        test.inputOfNoSlot();
        test.fuelThatIsNone();
        test.runTreeNotYet();
        test.runCodeLikewise();
        test.outOfThisRun();
        test.ranOfTheLatestRun();
        test.ranThatThereIsNoneOf();
        test.moreThan1000Values();
        test.outThatThereIsNoneOf();
        test.valueThatThereIsNoneOf();
        test.doc.end();
    }

    /** Nothing is known of tokens, the tree and the code. */
    private void knowsNothing(TinyFront x, String when) {
        for (int what = 0; what < 4; what++) {
            doc.due("token(0, " + what + ") " + when, x.token(0, what), -1);
        }
        doc.due("slots() " + when, x.slots(), 0);
        for (int what = 0; what < 6; what++) {
            doc.due("node(0, " + what + ") " + when, x.node(0, what), -1);
        }
        doc.due("code(0, 0) " + when, x.code(0, 0), -1);
        doc.due("code(0, 1) " + when, x.code(0, 1), -1);
        doc.due("parse() " + when, x.parse(), -3);
        doc.due("compile() " + when, x.compile(), -3);
        doc.due("runTree(5) " + when, x.runTree(5), -3);
        doc.due("runCode(5) " + when, x.runCode(5), -3);
    }

    private void knowsNoRun(TinyFront x, String when) {
        for (int what = -1; what <= 4; what++) {
            doc.due("ran(" + what + ") " + when, x.ran(what), -1);
        }
        doc.due("out(0) " + when, x.out(0), 0);
        for (int slot = 0; slot < 32; slot++) {
            doc.due("value(" + slot + ") " + when, x.value(slot), 0);
        }
    }

    private void newObject() {
        doc.says("No text; nothing is told of it.");
        TinyFront x = new TinyFront();
        knowsNothing(x, "of a new object");
        knowsNoRun(x, "of a new object");
        doc.due("reduced(-1)", x.reduced(-1), 0);
        doc.due("reduced(0)", x.reduced(0), -1);
        doc.due("clear()", x.clear(), 0);
        doc.due("lex()", x.lex(), 0);
        doc.due("token(0, 0)", x.token(0, 0), 0);
        doc.due("slots()", x.slots(), 0);
        doc.due("parse()", x.parse(), 1);
        doc.due("node(0, 2)", x.node(0, 2), 0);
        doc.due("compile()", x.compile(), 1);
        doc.due("code(0, 0)", x.code(0, 0), 16);
        doc.due("runTree(0)", x.runTree(0), 0);
        doc.due("runCode(0)", x.runCode(0), 1);
        doc.due("runCode(1)", x.runCode(1), 0);
    }

    private void feedOfAnotherN() {
        doc.says("BAD: another n");
        TinyFront x = Check.compiled("x=1;");
        x.runTree(9);
        int[] others = {0, -1, -8, 9, 10, 256 + 1, 65536 + 8, MOST, LEAST};
        for (int n : others) {
            doc.due("feed(59, " + n + ")", x.feed(';', n), -1);
        }
        doc.due("token(3, 0) stays", x.token(3, 0), 20);
        doc.due("node(0, 0) stays", x.node(0, 0), 0);
        doc.due("code(2, 0) stays", x.code(2, 0), 16);
        doc.due("ran(1) stays", x.ran(1), 2);
        doc.due("clear(): none came", x.clear(), 4);
        doc.says("The lowest n bytes (1 .. 8), the highest of these first");
        for (int n = 1; n <= 8; n++) {
            TinyFront y = new TinyFront();
            doc.due("feed of " + n, y.feed(Check.pack("98765432"), n), n);
            doc.due("lex() of " + n, y.lex(), 1);
            int worth = Integer.parseInt("98765432".substring(8 - n));
            doc.due("token(0, 3) of " + n, y.token(0, 3), worth);
        }
    }

    private void feedBeyond4000() {
        doc.says("FULL (none comes): more than 4000.");
        for (int n = 1; n <= 8; n++) {
            String text = "x=1;" + " ".repeat(3996 - n);
            TinyFront x = Check.compiled(text);
            if (n > 1) {
                doc.due("feed of one", x.feed('z', 1), 4001 - n);
                doc.due("feed to 4001", x.feed(Check.pack("12345678"), n), -2);
                doc.due("lex(): none came", x.lex(), 5);
                doc.due("token(4, 0)", x.token(4, 0), 1);
                doc.due("token(5, 1), THE END", x.token(5, 1), 4001 - n);
            } else {
                doc.due("feed to 4000", x.feed('z', 1), 4000);
                doc.due("feed to 4001", x.feed('z', 1), -2);
            }
        }
        TinyFront y = Check.compiled("x=1;" + " ".repeat(3996));
        doc.due("feed to 4008", y.feed(0, 8), -2);
        doc.due("feed of another n", y.feed(0, 9), -1);
        doc.due("token(0, 0) stays", y.token(0, 0), 1);
        doc.due("node(0, 0) stays", y.node(0, 0), 0);
        doc.due("code(0, 0) stays", y.code(0, 0), 0);
        doc.due("clear()", y.clear(), 4000);
        doc.due("feed of 8 then", y.feed(0, 8), 8);
    }

    private void feedForgets() {
        doc.says("come to the text, of which no tokens, tree, code are known then");
        TinyFront x = Check.compiled("print x;");
        x.input(0, 5);
        x.runCode(9);
        int told = x.reduced(-1);
        x.feed(' ', 1);
        knowsNothing(x, "behind feed");
        doc.due("ran(1) stays", x.ran(1), 3);
        doc.due("out(0) stays", x.out(0), 5);
        doc.due("value(0) stays", x.value(0), 5);
        doc.due("input(0, 1) stays", x.input(0, 1), 5);
        doc.due("reduced(-1) stays", x.reduced(-1), told);
    }

    private void clearForgets() {
        doc.says("The text is empty; inputs are all 0; of runs nothing is known: how many bytes it"
            + " had.");
        TinyFront x = Check.compiled("x=7;print x;");
        for (int slot = 0; slot < 32; slot++) {
            x.input(slot, -1 - slot);
        }
        x.runTree(99);
        doc.due("clear()", x.clear(), 12);
        knowsNothing(x, "behind clear()");
        knowsNoRun(x, "behind clear()");
        for (int slot = 0; slot < 32; slot++) {
            doc.due("input(" + slot + ", 0) behind clear()", x.input(slot, 0), 0);
        }
        doc.due("clear() of the empty text", x.clear(), 0);
        doc.due("lex()", x.lex(), 0);
        doc.due("clear() of it", x.clear(), 0);
        doc.due("token(0, 0)", x.token(0, 0), -1);
        doc.due("clear() of 4000", Check.fed("x".repeat(4000)).clear(), 4000);
        doc.due("clear() of an ERROR", Check.lexed("x ?").clear(), 3);
    }

    private void lexWithAnError() {
        doc.says("-10 less the place of the ERROR (no tokens then).");
        TinyFront x = Check.compiled("print 1;");
        x.runTree(9);
        x.feed('?', 1);
        doc.due("lex()", x.lex(), -18);
        knowsNothing(x, "of an ERROR");
        knowsNoRun(x, "of an ERROR");
        doc.due("reduced(-1) stays", x.reduced(-1), 10);
        doc.says("(No tree, code are known then.)");
        TinyFront y = Check.compiled("print 1;");
        doc.due("lex()", y.lex(), 3);
        doc.due("node(0, 0)", y.node(0, 0), -1);
        doc.due("code(0, 0)", y.code(0, 0), -1);
        doc.due("compile()", y.compile(), -3);
        doc.due("runTree(9)", y.runTree(9), -3);
        doc.due("runCode(9)", y.runCode(9), -3);
        doc.due("token(0, 0)", y.token(0, 0), 3);
    }

    private void tokenThatThereIsNoneOf() {
        doc.says("BAD: none such, or what (told of a worth, too).");
        TinyFront x = Check.lexed("x=4294967295;");
        int[] numbers = {-1, 5, 6, 3999, 4000, 4001, MOST, LEAST};
        for (int i : numbers) {
            for (int what = 0; what < 4; what++) {
                doc.due("token(" + i + ", " + what + ")", x.token(i, what), -1);
            }
        }
        int[] whats = {-1, 4, 5, 256, MOST, LEAST};
        for (int what : whats) {
            for (int i = 0; i <= 4; i++) {
                doc.due("token(" + i + ", " + what + ")", x.token(i, what), -1);
            }
        }
        doc.due("token(2, 3), a worth of -1", x.token(2, 3), -1);
        doc.due("token(2, 0)", x.token(2, 0), 2);
        doc.says("Of token i (THE END, too)");
        int[] end = {0, 13, 0, 0};
        for (int what = 0; what < 4; what++) {
            doc.due("token(4, " + what + ")", x.token(4, what), end[what]);
        }
        doc.says("of a NAME its slot, of a NUMBER its worth, else 0 (3)");
        doc.due("token(0, 3)", Check.lexed("a b").token(1, 3), 1);
        doc.due("token(1, 3)", x.token(1, 3), 0);
        doc.due("token(3, 3)", x.token(3, 3), 0);
    }

    private void slotsWithoutTokens() {
        doc.says("How many slots there are by lex(); 0 without tokens.");
        TinyFront x = new TinyFront();
        doc.due("slots() of a new object", x.slots(), 0);
        Check.feed(x, "a b");
        doc.due("slots() before lex()", x.slots(), 0);
        x.lex();
        doc.due("slots()", x.slots(), 2);
        x.feed('?', 1);
        doc.due("slots() behind feed", x.slots(), 0);
        x.lex();
        doc.due("slots() of an ERROR", x.slots(), 0);
        x.clear();
        doc.due("slots() behind clear()", x.slots(), 0);
        x.lex();
        doc.due("slots() of the empty text", x.slots(), 0);
    }

    private void parseNotYet() {
        doc.says("NOT_YET: no tokens are known.");
        doc.due("parse() of a new object", new TinyFront().parse(), -3);
        doc.due("parse() before lex()", Check.fed("x=1;").parse(), -3);
        doc.due("parse() of an ERROR", Check.lexed("x=1;?").parse(), -3);
        TinyFront x = Check.parsed("x=1;");
        x.feed(' ', 1);
        doc.due("parse() behind feed", x.parse(), -3);
        x.lex();
        doc.due("parse() behind lex()", x.parse(), 3);
        x.clear();
        doc.due("parse() behind clear()", x.parse(), -3);
        x.lex();
        doc.due("parse() of the empty text", x.parse(), 1);
        doc.due("parse() again", x.parse(), 1);
    }

    private void parseOfAWrongToken() {
        doc.says("-10 less the number of the token that is WRONG.");
        doc.parse("}", -10);
        doc.parse("x", -11);
        doc.parse("x=1;}", -14);
        doc.parse(";".repeat(4000), -10);
        doc.parse("{".repeat(4000), -4010);
        doc.says("it is by a parse() with 0 or more alone");
        TinyFront x = Check.compiled("x=1;");
        x.feed('}', 1);
        x.lex();
        doc.due("parse()", x.parse(), -14);
        doc.due("node(0, 0)", x.node(0, 0), -1);
        doc.due("compile()", x.compile(), -3);
        doc.due("runTree(9)", x.runTree(9), -3);
        doc.due("token(4, 0) stays", x.token(4, 0), 24);
    }

    private void parseOfAStray() {
        doc.says("-10000 less the number of the first token break or next that is in no WHILE");
        doc.parse("break;", -10000);
        doc.parse("next;", -10000);
        doc.parse("x=1;next;break;", -10004);
        doc.parse("if(1){}else{{break;}}", -10009);
        doc.parse("while(1){break;}break;", -10008);
        doc.parse("while(1){while(1){next;}break;}next;", -10016);
        doc.parse("while(1){if(1){break;}else{{next;}}}", 11);
        doc.parse("{}".repeat(1996) + "{break;}", -10000 - 3993);
        doc.says("(looked at behind all else)");
        String high = "{".repeat(200) + "}".repeat(200);
        doc.parse("break;}", -12);
        doc.parse("break;x", -13);
        doc.parse("break;" + high, -2);
        doc.parse("break;" + high + "}", -10 - 402);
        doc.parse(high + "next;", -2);
        TinyFront x = Check.parsed("break;");
        doc.due("node(0, 0) of a stray", x.node(0, 0), -1);
        doc.due("compile() of a stray", x.compile(), -3);
        doc.due("runTree(9) of a stray", x.runTree(9), -3);
    }

    private void parseTellsWhatWasReduced() {
        doc.says("(What was reduced is told of all; no code is known then.)");
        doc.reduces("x=1;", 1, 30, 28, 25, 21, 18, 15, 13, 3, 2);
        doc.reduces("x=1;}", 1, 30, 28, 25, 21, 18, 15, 13, 3, 2);
        doc.reduces("break;", 1, 8, 2);
        TinyFront x = Check.parsed("{".repeat(200) + "}".repeat(200));
        doc.due("reduced(-1) of FULL", x.reduced(-1), 801);
        doc.due("reduced(800) of FULL", x.reduced(800), 2);
        TinyFront y = Check.compiled("x=1;");
        doc.due("parse() again", y.parse(), 3);
        doc.due("code(0, 0)", y.code(0, 0), -1);
        doc.due("runCode(9)", y.runCode(9), -3);
        doc.due("runTree(9)", y.runTree(9), 0);
    }

    private void reducedOfAnotherText() {
        doc.says("Of the latest parse() that was not NOT_YET (also when the text is another one"
            + " since)");
        TinyFront x = Check.parsed("{}");
        int[] want = {1, 1, 11, 10, 2};
        x.feed('}', 1);
        tells(x, "behind feed", want);
        x.parse();
        tells(x, "behind NOT_YET", want);
        x.lex();
        tells(x, "behind lex()", want);
        x.clear();
        tells(x, "behind clear()", want);
        x.feed('?', 1);
        x.lex();
        x.parse();
        tells(x, "behind an ERROR", want);
        x.clear();
        x.lex();
        x.parse();
        tells(x, "of the empty text", 1);
        x.feed(';', 1);
        x.lex();
        x.parse();
        tells(x, "of a WRONG first token");
    }

    private void tells(TinyFront x, String when, int... want) {
        doc.due("reduced(-1) " + when, x.reduced(-1), want.length);
        for (int i = 0; i < want.length; i++) {
            doc.due("reduced(" + i + ") " + when, x.reduced(i), want[i]);
        }
        doc.due("reduced(" + want.length + ") " + when, x.reduced(want.length), -1);
    }

    private void reducedThatThereIsNoneOf() {
        doc.says("BAD when there is none such.");
        TinyFront x = Check.parsed("x=1;");
        int[] numbers = {-2, -3, 10, 11, 16016, MOST, LEAST};
        for (int i : numbers) {
            doc.due("reduced(" + i + ")", x.reduced(i), -1);
        }
        doc.says("i = -1: how many (0 before any).");
        doc.due("reduced(-1)", x.reduced(-1), 10);
        TinyFront y = Check.lexed("x=1;");
        doc.due("reduced(-1) before any", y.reduced(-1), 0);
        doc.due("reduced(0) before any", y.reduced(0), -1);
        y.clear();
        doc.due("parse()", y.parse(), -3);
        doc.due("reduced(-1) behind NOT_YET alone", y.reduced(-1), 0);
        doc.says("(up to a wrong token; not rule 0)");
        doc.reduces("", 1);
        doc.reduces(";");
        doc.reduces("{;", 1);
    }

    private void nodeThatThereIsNoneOf() {
        doc.says("the node of its first part (4), of its last one (5; BAD without). BAD.");
        TinyFront x = Check.parsed("x=1;");
        int[] numbers = {-1, 3, 4, 4000, 4001, MOST, LEAST};
        for (int i : numbers) {
            for (int what = 0; what < 6; what++) {
                doc.due("node(" + i + ", " + what + ")", x.node(i, what), -1);
            }
        }
        int[] whats = {-1, 6, 7, 256, MOST, LEAST};
        for (int what : whats) {
            for (int i = 0; i < 3; i++) {
                doc.due("node(" + i + ", " + what + ")", x.node(i, what), -1);
            }
        }
        doc.due("node(2, 4), no part", x.node(2, 4), -1);
        doc.due("node(2, 5), no part", x.node(2, 5), -1);
        doc.due("node(1, 4), the only part", x.node(1, 4), 2);
        doc.due("node(1, 5), the only part", x.node(1, 5), 2);
        doc.due("node(0, 4) of no statement", Check.parsed("").node(0, 4), -1);
        doc.due("node(0, 5) of no statement", Check.parsed("").node(0, 5), -1);
        TinyFront y = Check.parsed("while(1){break;}{}");
        doc.due("node(4, 4) of a BREAK", y.node(4, 4), -1);
        doc.due("node(5, 5) of a LIST", y.node(5, 5), -1);
        doc.due("node(0, 5)", y.node(0, 5), 5);
    }

    private void compileNotYet() {
        doc.says("NOT_YET: no tree is known (it is by a parse() with 0 or more alone).");
        doc.due("compile() of a new object", new TinyFront().compile(), -3);
        doc.due("compile() before lex()", Check.fed("x=1;").compile(), -3);
        doc.due("compile() before parse()", Check.lexed("x=1;").compile(), -3);
        doc.due("compile() of an ERROR", Check.parsed("x=?").compile(), -3);
        doc.due("compile() of a WRONG token", Check.parsed("x=").compile(), -3);
        doc.due("compile() of a stray", Check.parsed("next;").compile(), -3);
        doc.due("compile() of FULL", Check.parsed("{".repeat(200) + "}".repeat(200)).compile(), -3);
        TinyFront x = Check.compiled("x=1;");
        x.feed(' ', 1);
        doc.due("compile() behind feed", x.compile(), -3);
        x.lex();
        doc.due("compile() behind lex()", x.compile(), -3);
        x.parse();
        doc.due("compile() behind parse()", x.compile(), 3);
        doc.due("compile() again", x.compile(), 3);
        x.clear();
        doc.due("compile() behind clear()", x.compile(), -3);
    }

    private void codeThatThereIsNoneOf() {
        doc.says("its operand (1; 0 without one). BAD. (Told of a number that is pushed, too.)");
        TinyFront x = Check.compiled("x=4294967295;");
        int[] numbers = {-1, 3, 4, 4001, 8000, 8001, MOST, LEAST};
        for (int i : numbers) {
            doc.due("code(" + i + ", 0)", x.code(i, 0), -1);
            doc.due("code(" + i + ", 1)", x.code(i, 1), -1);
        }
        int[] whats = {-1, 2, 3, 256, MOST, LEAST};
        for (int what : whats) {
            for (int i = 0; i < 3; i++) {
                doc.due("code(" + i + ", " + what + ")", x.code(i, what), -1);
            }
        }
        doc.due("code(0, 1), -1 is pushed", x.code(0, 1), -1);
        doc.due("code(0, 0)", x.code(0, 0), 0);
        doc.due("code(2, 1), HALT without an operand", x.code(2, 1), 0);
        TinyFront y = Check.parsed("x=1;");
        doc.due("code(0, 0) before compile()", y.code(0, 0), -1);
        wordsWithoutAnOperand();
    }

    private void wordsWithoutAnOperand() {
        // An earlier code leaves operands behind that must not be told.
        TinyFront x = Check.compiled("a=77;".repeat(30));
        x.clear();
        Check.feed(x, "print !-(a+a-a*a/a%a==a<a);if(a&&a||a){}while(a){break;next;}");
        x.lex();
        x.parse();
        int words = x.compile();
        int without = 0;
        for (int i = 0; i < words; i++) {
            int word = x.code(i, 0);
            if (word >= 3 && word <= 12 || word >= 15) {
                without++;
                doc.due("code(" + i + ", 1), an operand of word " + word, x.code(i, 1), 0);
            }
        }
        doc.due("how many words without an operand", without, 13);
    }

    private void inputOfNoSlot() {
        doc.says("The INPUT of a slot (0 .. 31) is a value: the one before. 0 when there is no such"
            + " slot.");
        TinyFront x = new TinyFront();
        int[] slots = {0, 1, 30, 31};
        int[] values = {1, -1, LEAST, MOST, 0, 5};
        for (int slot : slots) {
            int before = 0;
            for (int v : values) {
                doc.due("input(" + slot + ", " + v + ")", x.input(slot, v), before);
                before = v;
            }
        }
        int[] none = {-1, -32, 32, 33, 63, 256, MOST, LEAST};
        for (int slot : none) {
            doc.due("input(" + slot + ", 7)", x.input(slot, 7), 0);
            doc.due("input(" + slot + ", 8)", x.input(slot, 8), 0);
        }
        for (int slot = 0; slot < 32; slot++) {
            boolean told = slot < 2 || slot > 29;
            doc.due("input(" + slot + ", 0)", x.input(slot, 0), told ? 5 : 0);
        }
    }

    private void fuelThatIsNone() {
        doc.says("BAD: fuel is none of these");
        TinyFront x = Check.compiled("print 1;");
        x.runTree(9);
        int[] none = {-1, -2, 100001, 100002, MOST, LEAST};
        for (int fuel : none) {
            doc.due("runTree(" + fuel + ")", x.runTree(fuel), -1);
            doc.due("runCode(" + fuel + ")", x.runCode(fuel), -1);
            doc.due("runTree(" + fuel + ") without a tree", new TinyFront().runTree(fuel), -1);
            doc.due("runCode(" + fuel + ") without code", new TinyFront().runCode(fuel), -1);
        }
        doc.due("ran(1) of the run before", x.ran(1), 2);
        doc.due("out(0) of the run before", x.out(0), 1);
        int[] ends = {0, 100000};
        for (int fuel : ends) {
            doc.due("runTree(" + fuel + ")", x.runTree(fuel), fuel == 0 ? 1 : 0);
            doc.due("runCode(" + fuel + ")", x.runCode(fuel), fuel == 0 ? 1 : 0);
        }
        TinyFront y = Check.compiled("print 1;");
        y.runTree(-1);
        y.runCode(100001);
        knowsNoRun(y, "behind refused runs");
    }

    private void runTreeNotYet() {
        doc.says("NOT_YET: no tree is known.");
        int[] amounts = {0, 1, 100000};
        for (int fuel : amounts) {
            doc.due("runTree of a new object", new TinyFront().runTree(fuel), -3);
            doc.due("runTree before lex()", Check.fed("x=1;").runTree(fuel), -3);
            doc.due("runTree before parse()", Check.lexed("x=1;").runTree(fuel), -3);
            doc.due("runTree of an ERROR", Check.parsed("?").runTree(fuel), -3);
            doc.due("runTree of a WRONG token", Check.parsed("x").runTree(fuel), -3);
            doc.due("runTree of a stray", Check.parsed("next;").runTree(fuel), -3);
            String high = "{".repeat(200) + "}".repeat(200);
            doc.due("runTree of FULL", Check.parsed(high).runTree(fuel), -3);
        }
        TinyFront x = Check.parsed("print 1;");
        x.runTree(9);
        x.feed(' ', 1);
        doc.due("runTree(5) behind feed", x.runTree(5), -3);
        doc.due("ran(0) of the run before", x.ran(0), 0);
        x.lex();
        doc.due("runTree(5) behind lex()", x.runTree(5), -3);
        doc.due("ran(0) without a run", x.ran(0), -1);
        x.parse();
        doc.due("runTree(5) behind parse()", x.runTree(5), 0);
        x.clear();
        doc.due("runTree(5) behind clear()", x.runTree(5), -3);
    }

    private void runCodeLikewise() {
        doc.says("Likewise the code.");
        int[] amounts = {0, 1, 100000};
        for (int fuel : amounts) {
            doc.due("runCode of a new object", new TinyFront().runCode(fuel), -3);
            doc.due("runCode before compile()", Check.parsed("x=1;").runCode(fuel), -3);
            doc.due("runCode of an ERROR", Check.compiled("?").runCode(fuel), -3);
            doc.due("runCode of a WRONG token", Check.compiled("x").runCode(fuel), -3);
            doc.due("runCode of a stray", Check.compiled("next;").runCode(fuel), -3);
        }
        TinyFront x = Check.compiled("print 1;");
        doc.due("runCode(5)", x.runCode(5), 0);
        x.parse();
        doc.due("runCode(5) behind parse()", x.runCode(5), -3);
        doc.due("ran(1) of the run before", x.ran(1), 3);
        x.compile();
        doc.due("runCode(5) behind compile()", x.runCode(5), 0);
        x.feed(' ', 1);
        doc.due("runCode(5) behind feed", x.runCode(5), -3);
        x.lex();
        doc.due("runCode(5) behind lex()", x.runCode(5), -3);
        x.clear();
        doc.due("runCode(5) behind clear()", x.runCode(5), -3);
    }

    private void outOfThisRun() {
        doc.says("OUT is that of this run.");
        TinyFront x = Check.compiled("while(i<n){i=i+1;print i*10;}");
        int[] counts = {3, 1, 0, 2};
        for (int count : counts) {
            x.input(1, count);
            x.runTree(1000);
            printedTens(x, "by the tree, " + count, count);
        }
        for (int count : counts) {
            x.input(1, count);
            x.runCode(1000);
            printedTens(x, "by the code, " + count, count);
        }
    }

    private void printedTens(TinyFront x, String run, int count) {
        doc.due("ran(2) " + run, x.ran(2), count);
        for (int i = 0; i < 4; i++) {
            doc.due("out(" + i + ") " + run, x.out(i), i < count ? 10 * i + 10 : 0);
        }
    }

    private void ranOfTheLatestRun() {
        doc.says("3 the node or word that began last and took fuel (BAD without)");
        TinyFront x = Check.compiled("x=1;");
        x.runTree(0);
        doc.due("ran(3) of runTree(0)", x.ran(3), -1);
        x.runTree(1);
        doc.due("ran(3) of runTree(1)", x.ran(3), 1);
        x.runCode(0);
        doc.due("ran(3) of runCode(0)", x.ran(3), -1);
        x.runCode(1);
        doc.due("ran(3) of runCode(1)", x.ran(3), 0);
        TinyFront y = Check.compiled("{}");
        y.runTree(100);
        doc.due("ran(3) of LISTs alone", y.ran(3), -1);
        doc.due("ran(0) of LISTs alone", y.ran(0), 0);
        doc.due("ran(1) of LISTs alone", y.ran(1), 0);
        doc.says("Of the latest run");
        x.runTree(100);
        doc.due("ran(1) of the tree", x.ran(1), 2);
        x.runCode(100);
        doc.due("ran(1) of the code", x.ran(1), 3);
        x.runTree(1);
        doc.due("ran(0) of the tree", x.ran(0), 1);
        x.compile();
        doc.due("ran(0) behind compile()", x.ran(0), 1);
        x.parse();
        doc.due("ran(0) behind parse()", x.ran(0), 1);
        x.input(0, 8);
        doc.due("value(0) behind input()", x.value(0), 0);
        x.feed(' ', 1);
        doc.due("ran(0) behind feed()", x.ran(0), 1);
    }

    private void ranThatThereIsNoneOf() {
        doc.says("BAD: none such, or no run since clear() or lex() (then out() and value() are 0).");
        TinyFront x = new TinyFront();
        x.input(0, 6);
        Check.feed(x, "print x;");
        knowsNoRun(x, "before any run");
        x.lex();
        x.parse();
        x.compile();
        knowsNoRun(x, "before any run");
        x.runCode(9);
        int[] whats = {-1, 4, 5, 256, MOST, LEAST};
        for (int what : whats) {
            doc.due("ran(" + what + ")", x.ran(what), -1);
        }
        doc.due("ran(2)", x.ran(2), 1);
        doc.due("out(0)", x.out(0), 6);
        doc.due("value(0)", x.value(0), 6);
        x.lex();
        knowsNoRun(x, "since lex()");
        doc.due("input(0, 7) stays", x.input(0, 7), 6);
        x.parse();
        x.runTree(9);
        doc.due("out(0) of a new run", x.out(0), 7);
        x.clear();
        knowsNoRun(x, "since clear()");
    }

    private void moreThan1000Values() {
        doc.says("2 how many values it printed (the first 1000 stay)");
        TinyFront x = Check.compiled("while(i<n){i=i+1;print i;}");
        int[] counts = {999, 1000, 1001, 5000};
        for (int count : counts) {
            x.input(1, count);
            for (int engine = 0; engine < 2; engine++) {
                String run = (engine == 0 ? "by the tree, " : "by the code, ") + count;
                doc.due(run, engine == 0 ? x.runTree(100000) : x.runCode(100000), 0);
                doc.due("ran(2) " + run, x.ran(2), count);
                doc.due("out(0) " + run, x.out(0), 1);
                doc.due("out(998) " + run, x.out(998), 999);
                doc.due("out(999) " + run, x.out(999), count < 1000 ? 0 : 1000);
                doc.due("out(1000) " + run, x.out(1000), 0);
                doc.due("out(1001) " + run, x.out(1001), 0);
            }
        }
        x.input(1, 1);
        x.runTree(100000);
        doc.due("ran(2) of a shorter run", x.ran(2), 1);
        doc.due("out(1) of a shorter run", x.out(1), 0);
        doc.due("out(999) of a shorter run", x.out(999), 0);
    }

    private void outThatThereIsNoneOf() {
        doc.says("Value i that it printed. 0 when there is none such.");
        TinyFront x = Check.compiled("print -7;print 8;");
        doc.due("out(0) before a run", x.out(0), 0);
        int[] none = {-1, 2, 3, 999, 1000, 1001, MOST, LEAST};
        x.runTree(100);
        doc.due("out(0)", x.out(0), -7);
        doc.due("out(1)", x.out(1), 8);
        for (int i : none) {
            doc.due("out(" + i + ")", x.out(i), 0);
        }
        doc.due("out(0) of a new object", new TinyFront().out(0), 0);
    }

    private void valueThatThereIsNoneOf() {
        doc.says("The value of a slot (0 .. 31) where it ended. 0 when there is none such.");
        TinyFront x = Check.compiled("a=5;b=a/c;a=6;");
        x.input(0, 9);
        x.input(31, 4);
        x.runTree(1);
        doc.due("value(0) where the fuel ended", x.value(0), 9);
        x.runTree(100);
        doc.due("value(0) where it was DIVIDED", x.value(0), 5);
        x.runCode(100);
        doc.due("value(0) by the code", x.value(0), 5);
        x.input(2, 1);
        x.runCode(100);
        doc.due("value(0) at the end", x.value(0), 6);
        doc.due("value(1) at the end", x.value(1), 5);
        // The document gives every slot an INPUT, also one that no NAME has.
        doc.due("value(31)", x.value(31), 4);
        doc.due("value(30)", x.value(30), 0);
        int[] none = {-1, -31, 32, 33, 63, 256, MOST, LEAST};
        for (int slot : none) {
            doc.due("value(" + slot + ")", x.value(slot), 0);
        }
    }
}
