/** Promise 8: reduced. */
public final class ReducedTest {
    private static final Check CHECK = new Check("promise 8, reduced");

    public static void main(String[] args) {
        wholeTexts();
        everyRule();
        upToAWrongToken();
        wrongOnes();
        latestParse();
        longTexts();
        CHECK.end();
    }

    private static void rules(String text, int... want) {
        rulesOf(Check.parsed(text), text, want);
    }

    private static void rulesOf(TinyFront x, String text, int... want) {
        CHECK.due("reduced(-1) of [" + text + "]", x.reduced(-1), want.length);
        for (int i = 0; i < want.length; i++) {
            CHECK.due("reduced(" + i + ") of [" + text + "]", x.reduced(i), want[i]);
        }
        CHECK.due("reduced behind all of [" + text + "]", x.reduced(want.length), -1);
    }

    private static void wholeTexts() {
        rules("", 1);
        rules("{}", 1, 1, 11, 10, 2);
        rules("x=1;", 1, 30, 28, 25, 21, 18, 15, 13, 3, 2);
        rules("x=1+2*3;", 1, 30, 28, 25, 21, 30, 28, 25, 30, 28, 22, 19, 18, 15, 13, 3, 2);
        rules("x=(y);", 1, 29, 28, 25, 21, 18, 15, 13, 31, 28, 25, 21, 18, 15, 13, 3, 2);
        rules("while(1){break;next;}", 1, 30, 28, 25, 21, 18, 15, 13, 1, 8, 2, 9, 2, 11, 7, 2);
        rules("if(1){}", 1, 30, 28, 25, 21, 18, 15, 13, 1, 11, 5, 2);
        rules("if(1){}else{}", 1, 30, 28, 25, 21, 18, 15, 13, 1, 11, 1, 11, 6, 2);
    }

    private static void everyRule() {
        rules("print a||b;", 1, 29, 28, 25, 21, 18, 15, 13, 29, 28, 25, 21, 18, 15, 12, 4, 2);
        rules("print a&&b;", 1, 29, 28, 25, 21, 18, 15, 29, 28, 25, 21, 18, 14, 13, 4, 2);
        rules("print a==b;", 1, 29, 28, 25, 21, 18, 29, 28, 25, 21, 16, 15, 13, 4, 2);
        rules("print a<b;", 1, 29, 28, 25, 21, 18, 29, 28, 25, 21, 17, 15, 13, 4, 2);
        rules("print a+b;", 1, 29, 28, 25, 21, 29, 28, 25, 19, 18, 15, 13, 4, 2);
        rules("print a-b;", 1, 29, 28, 25, 21, 29, 28, 25, 20, 18, 15, 13, 4, 2);
        rules("print a*b;", 1, 29, 28, 25, 29, 28, 22, 21, 18, 15, 13, 4, 2);
        rules("print a/b;", 1, 29, 28, 25, 29, 28, 23, 21, 18, 15, 13, 4, 2);
        rules("print a%b;", 1, 29, 28, 25, 29, 28, 24, 21, 18, 15, 13, 4, 2);
        rules("print-!a;", 1, 29, 28, 27, 26, 25, 21, 18, 15, 13, 4, 2);
    }

    private static void upToAWrongToken() {
        rules("else");
        rules(")");
        rules("1");
        rules("}", 1);
        rules("x", 1);
        rules("break", 1);
        rules("print 1}", 1);
        rules("print 1=", 1);
        rules("print 1{", 1);
        rules("print 1", 1);
        rules("print 1)", 1, 30, 28, 25, 21, 18, 15, 13);
        rules("print (1;", 1, 30, 28, 25, 21, 18, 15, 13);
        rules("print 1+)", 1, 30, 28, 25, 21);
        rules("print 1*2(", 1, 30, 28, 25);
        rules("x=1;}", 1, 30, 28, 25, 21, 18, 15, 13, 3, 2);
        rules("x=1;;", 1, 30, 28, 25, 21, 18, 15, 13);
        rules("x=1;else", 1, 30, 28, 25, 21, 18, 15, 13);
        rules("{x=1;", 1, 1, 30, 28, 25, 21, 18, 15, 13, 3, 2);
        rules("{}else{}", 1, 1, 11);
        rules("while(1){}else", 1, 30, 28, 25, 21, 18, 15, 13, 1, 11);
        rules("if(1){}else", 1, 30, 28, 25, 21, 18, 15, 13, 1, 11);
    }

    private static void wrongOnes() {
        TinyFront x = Check.parsed("x=1;");
        int[] wrong = {-2, 10, 11, 20000, Integer.MAX_VALUE, Integer.MIN_VALUE};
        for (int i : wrong) {
            CHECK.due("reduced(" + i + ")", x.reduced(i), -1);
        }
        CHECK.due("reduced(-1) before any", new TinyFront().reduced(-1), 0);
        CHECK.due("reduced(0) before any", new TinyFront().reduced(0), -1);
    }

    private static void latestParse() {
        TinyFront x = Check.parsed("{}");
        x.clear();
        rulesOf(x, "{} behind clear()", 1, 1, 11, 10, 2);
        Check.feed(x, "}");
        rulesOf(x, "{} behind feed", 1, 1, 11, 10, 2);
        x.parse();
        rulesOf(x, "{} behind NOT_YET", 1, 1, 11, 10, 2);
        x.lex();
        rulesOf(x, "{} behind lex()", 1, 1, 11, 10, 2);
        x.parse();
        rulesOf(x, "}", 1);
        x.parse();
        rulesOf(x, "} once more", 1);
        TinyFront y = Check.parsed("break;");
        rulesOf(y, "a stray", 1, 8, 2);
    }

    private static void longTexts() {
        int deep = 1990;
        TinyFront x = Check.parsed("print" + "(".repeat(deep) + "1" + ")".repeat(deep) + ";");
        int count = 1 + 7 + 7 * deep + 2;
        CHECK.due("reduced(-1) of many brackets", x.reduced(-1), count);
        CHECK.due("its last", x.reduced(count - 1), 2);
        CHECK.due("the one before", x.reduced(count - 2), 4);
        CHECK.due("behind", x.reduced(count), -1);
        TinyFront y = Check.parsed("{".repeat(4000));
        CHECK.due("reduced(-1) of many {", y.reduced(-1), 4001);
        CHECK.due("its last", y.reduced(4000), 1);
        TinyFront z = Check.parsed("x=" + "1||".repeat(1332) + "1;");
        CHECK.due("reduced(-1) of many ||", z.reduced(-1), 1 + 7 * 1333 + 2);
    }
}
