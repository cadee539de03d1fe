/** Promise 7: parse. */
public final class ParseTest {
    private static final Check CHECK = new Check("promise 7, parse");

    public static void main(String[] args) {
        nodeCounts();
        wrongTokens();
        notYet();
        heights();
        strays();
        orderOfRefusals();
        forgets();
        CHECK.end();
    }

    private static void parse(String text, int want) {
        CHECK.due("parse() of [" + text + "]", Check.lexed(text).parse(), want);
    }

    private static void nodeCounts() {
        parse("", 1);
        parse("x=1;", 3);
        parse("print x;", 3);
        parse("{}", 2);
        parse("{{}{}}", 4);
        parse("if(1){}", 4);
        parse("if(1){}else{}", 5);
        parse("while(x){x=x-1;}", 8);
        parse("while(1){break;next;}", 6);
        parse("x=((((7))));", 3);
        parse("x=1||2&&3==4<5+6-7*8/9%10;", 21);
        parse("x=-!-!y;", 7);
        parse("x=1;y=2;print x;{}", 8);
        parse("if(1){if(2){}else{}}", 8);
        parse("{}".repeat(2000), 2001);
        parse("print" + "(".repeat(1990) + "1" + ")".repeat(1990) + ";", 3);
        parse(("x=" + "-".repeat(190) + "1;").repeat(20), 1 + 20 * 192);
    }

    private static void wrongTokens() {
        parse("x", -11);
        parse("x=", -12);
        parse("x=1", -13);
        parse(";", -10);
        parse("x=1;;", -14);
        parse("1=x;", -10);
        parse("else", -10);
        parse("}", -10);
        parse("{", -11);
        parse("{}}", -12);
        parse("x==1;", -11);
        parse("x=1 2;", -13);
        parse("x=y=1;", -13);
        parse("print;", -11);
        parse("print 1);", -12);
        parse("print (1;", -13);
        parse("print ();", -12);
        parse("print +1;", -11);
        parse("print 1+;", -13);
        parse("print 1!;", -12);
        parse("print 1==2==3<4;", 9);
        parse("if 1{}", -11);
        parse("if(1)x=1;", -14);
        parse("if(1){}else x=1;", -17);
        parse("if(1){}else", -17);
        parse("if(1){}else if(1){}", -17);
        parse("if(1){}else{}else{}", -19);
        parse("{}else{}", -12);
        parse("while(1){}else{}", -16);
        parse("while(){}", -12);
        parse("break", -11);
        parse("next 1;", -11);
        parse("print print;", -11);
        parse(";".repeat(4000), -10);
        parse("{".repeat(4000), -4010);
        parse("-".repeat(4000), -10);
        parse("x=" + "(".repeat(3998), -4010);
    }

    private static void notYet() {
        CHECK.due("parse() of a new object", new TinyFront().parse(), -3);
        CHECK.due("parse() without lex()", Check.fed("x=1;").parse(), -3);
        CHECK.due("parse() behind an ERROR", Check.lexed("x=?;").parse(), -3);
        TinyFront x = Check.lexed("x=1;");
        CHECK.due("parse()", x.parse(), 3);
        CHECK.due("parse() again", x.parse(), 3);
        x.feed(' ', 1);
        CHECK.due("parse() behind feed", x.parse(), -3);
        TinyFront y = Check.lexed("{".repeat(4000));
        for (int i = 0; i < 4; i++) {
            CHECK.due("parse() of a deep text again", y.parse(), -4010);
        }
    }

    private static void heights() {
        parse("x=" + "-".repeat(197) + "1;", 200);
        parse("x=" + "-".repeat(198) + "1;", -2);
        parse("{".repeat(199) + "}".repeat(199), 200);
        parse("{".repeat(200) + "}".repeat(200), -2);
        parse("{".repeat(2000) + "}".repeat(2000), -2);
        parse("x=" + "1+".repeat(197) + "1;", 2 + 2 * 197 + 1);
        parse("x=" + "1+".repeat(198) + "1;", -2);
        parse("x=" + "(1+".repeat(197) + "1" + ")".repeat(197) + ";", 2 + 2 * 197 + 1);
        parse("x=" + "(1+".repeat(198) + "1" + ")".repeat(198) + ";", -2);
        // A WHILE and its LIST are two, and the exp in the innermost one is below them.
        parse("while(1){".repeat(99) + "}".repeat(99), 1 + 3 * 99);
        parse("while(1){".repeat(100) + "}".repeat(100), -2);
        parse("x=1;".repeat(900) + "x=" + "!".repeat(198) + "1;", -2);
        TinyFront x = Check.parsed("{".repeat(200) + "}".repeat(200));
        CHECK.due("node(0, 0) behind FULL", x.node(0, 0), -1);
        CHECK.due("compile() behind FULL", x.compile(), -3);
        CHECK.due("runTree(1) behind FULL", x.runTree(1), -3);
        CHECK.due("reduced(-1) behind FULL", x.reduced(-1), 1 + 200 * 4);
    }

    private static void strays() {
        parse("break;", -10000);
        parse("next;", -10000);
        parse("x=1;break;", -10004);
        parse("{next;}break;", -10001);
        parse("while(1){break;}next;", -10008);
        parse("while(1){}break;", -10006);
        parse("if(1){break;}", -10005);
        parse("while(1){if(1){break;}else{next;}{break;}}", 12);
        parse("while(1){while(1){break;}break;}", 9);
        parse("while(1){while(1){}break;}break;", -10014);
        TinyFront x = Check.parsed("x=1;next;");
        CHECK.due("node(0, 0) behind a stray", x.node(0, 0), -1);
        CHECK.due("compile() behind a stray", x.compile(), -3);
        CHECK.due("runTree(1) behind a stray", x.runTree(1), -3);
        CHECK.due("reduced(-1) behind a stray", x.reduced(-1), 12);
    }

    private static void orderOfRefusals() {
        String high = "{".repeat(200) + "}".repeat(200);
        parse("break;" + high, -2);
        parse("break;" + high + "}", -10 - 402);
        parse("break;x", -13);
    }

    private static void forgets() {
        TinyFront x = Check.compiled("x=1;");
        CHECK.due("code(0, 0) before", x.code(0, 0), 0);
        CHECK.due("parse() again", x.parse(), 3);
        CHECK.due("code(0, 0)", x.code(0, 0), -1);
        CHECK.due("runCode(9)", x.runCode(9), -3);
        CHECK.due("runTree(9)", x.runTree(9), 0);
        CHECK.due("compile()", x.compile(), 3);
        CHECK.due("parse() a third time", x.parse(), 3);
        CHECK.due("ran(0) stays", x.ran(0), 0);
        CHECK.due("value(0) stays", x.value(0), 1);
        x.clear();
        Check.feed(x, "x=;");
        x.lex();
        CHECK.due("parse() with a WRONG token", x.parse(), -12);
        CHECK.due("node(0, 0)", x.node(0, 0), -1);
        CHECK.due("compile()", x.compile(), -3);
        CHECK.due("token(0, 0) stays", x.token(0, 0), 1);
    }
}
