import java.io.IOException;

/** The edges that the document names under RULES, THE PARSER and THE TREE, sentence by sentence. */
public final class EdgesOfTreeTest {
    private final Sentences doc;

    private EdgesOfTreeTest() throws IOException {
        doc = new Sentences("the edges of the tree");
    }

    public static void main(String[] args) throws IOException {
        EdgesOfTreeTest test = new EdgesOfTreeTest();
        test.emptyText();
        test.theEndIsWrong();
        test.shifted();
        test.reducedBeforeAWrongToken();
        test.accepted();
        test.wrong();
        test.blocks();
        test.brackets();
        test.tokensOfNodes();
        test.numbersOfNodes();
        test.heights();
        test.highestTrees();
        test.doc.end();
    }

    private void emptyText() {
        doc.says("1 L: nothing.");
        doc.reduces("", 1);
        doc.reduces(" # nothing", 1);
        doc.parse("", 1);
        doc.parse("# nothing", 1);
        doc.reduces("{}", 1, 1, 11, 10, 2);
    }

    private void theEndIsWrong() {
        doc.says("The text is P with THE END behind.");
        doc.parse("x", -11);
        doc.parse("x=", -12);
        doc.parse("x=1", -13);
        doc.parse("print", -11);
        doc.parse("{", -11);
        doc.parse("if(1)", -14);
        doc.parse("if(1){}else", -17);
        doc.parse("while(1){", -15);
        doc.parse("break", -11);
        doc.parse("{".repeat(4000), -4010);
        TinyFront x = Check.lexed("{".repeat(4000));
        for (int turn = 0; turn < 4; turn++) {
            doc.due("parse() of the deepest text", x.parse(), -4010);
            doc.due("reduced(-1) of the deepest text", x.reduced(-1), 4001);
        }
    }

    private void shifted() {
        doc.says("if the uppermost set goes on by it: that set comes upon the pile, and the token"
            + " is SHIFTED");
        // An else goes with the if before it, and is no end of that statement.
        doc.reduces("if(1){}else{}", 1, 30, 28, 25, 21, 18, 15, 13, 1, 11, 1, 11, 6, 2);
        doc.reduces("if(1){}{}", 1, 30, 28, 25, 21, 18, 15, 13, 1, 11, 5, 2, 1, 11, 10, 2);
        doc.parse("if(1){}else{}else{}", -19);
    }

    private void reducedBeforeAWrongToken() {
        doc.says("of a rule but 0, whose letter has the token in FOLLOW: the rule is REDUCED");
        doc.reduces("else");
        doc.reduces("7");
        doc.reduces("}", 1);
        doc.reduces("print 1", 1);
        doc.reduces("print 1{", 1);
        doc.reduces("print x!", 1);
        doc.reduces("print 1)", 1, 30, 28, 25, 21, 18, 15, 13);
        doc.reduces("print (1;", 1, 30, 28, 25, 21, 18, 15, 13);
        doc.reduces("print 1<)", 1, 30, 28, 25, 21, 18);
        doc.reduces("x=1;else", 1, 30, 28, 25, 21, 18, 15, 13);
        doc.reduces("{}else", 1, 1, 11);
        doc.reduces("while(1){}else", 1, 30, 28, 25, 21, 18, 15, 13, 1, 11);
    }

    private void accepted() {
        doc.says("if it has rule 0 at its end, and the token is THE END: the text is accepted");
        doc.parse("x=1;", 3);
        doc.parse("}", -10);
        doc.parse("x=1;}", -14);
        doc.parse("{}}", -12);
    }

    private void wrong() {
        doc.says("else that token is WRONG.");
        doc.parse(";", -10);
        doc.parse("x;", -11);
        doc.parse("x=1;;", -14);
        doc.parse("x==1;", -11);
        doc.parse("x=1=2;", -13);
        doc.parse("if(1)print 1;", -14);
        doc.parse("if(1){}else if(1){}", -17);
        doc.parse("print();", -12);
        doc.parse("print+1;", -11);
        doc.parse("x=1 ? ", -3);
        doc.parse(";".repeat(4000), -10);
        doc.parse("{}".repeat(1999) + "{;", -10 - 3999);
    }

    private void blocks() {
        doc.says("a statement that is B is its LIST");
        doc.parse("{}", 2);
        doc.parse("{{}}", 3);
        doc.parse("{}{}", 3);
        TinyFront x = Check.parsed("{{}}");
        doc.due("node(0, 2)", x.node(0, 2), 1);
        doc.due("node(1, 0)", x.node(1, 0), 0);
        doc.due("node(1, 2)", x.node(1, 2), 1);
        doc.due("node(2, 2)", x.node(2, 2), 0);
    }

    private void brackets() {
        doc.says("brackets are none");
        doc.parse("print (1);", 3);
        doc.parse("print " + "(".repeat(1993) + "1" + ")".repeat(1993) + ";", 3);
        TinyFront x = Check.parsed("print ((1))-(2);");
        doc.due("node(2, 1)", x.node(2, 1), 6);
        doc.due("node(2, 3)", x.node(2, 3), 2);
        doc.due("node(3, 1)", x.node(3, 1), 3);
        doc.due("node(4, 1)", x.node(4, 1), 8);
    }

    private void tokensOfNodes() {
        doc.says("of a LIST its {, or token 0 for the whole.");
        doc.due("node(0, 1) of no token", Check.parsed("").node(0, 1), 0);
        TinyFront x = Check.parsed("x=1;{}if(1){}else{}while(1){}");
        doc.due("node(0, 1)", x.node(0, 1), 0);
        doc.due("node(3, 1) of a B", x.node(3, 1), 4);
        doc.due("node(6, 1) behind if", x.node(6, 1), 10);
        doc.due("node(7, 1) behind else", x.node(7, 1), 13);
        doc.due("node(10, 1) behind while", x.node(10, 1), 19);
        doc.says("Its TOKEN is that of its name, number, sign or word");
        doc.due("node(1, 1) of a SET", x.node(1, 1), 0);
        doc.due("node(2, 1) of a NUMBER", x.node(2, 1), 2);
        doc.due("node(4, 1) of an IF", x.node(4, 1), 6);
        doc.due("node(8, 1) of a WHILE", x.node(8, 1), 15);
        String[] signs = {"||", "&&", "==", "<", "+", "-", "*", "/", "%"};
        for (String sign : signs) {
            TinyFront y = Check.parsed("print(1)" + sign + "2;");
            doc.due("node(1, 1) of a PRINT with " + sign, y.node(1, 1), 0);
            doc.due("node(2, 1) of " + sign, y.node(2, 1), 4);
            doc.due("node(3, 1) left of " + sign, y.node(3, 1), 2);
            doc.due("node(4, 1) right of " + sign, y.node(4, 1), 5);
        }
        TinyFront z = Check.parsed("if(-!x){}while(1){break;next;}");
        doc.due("node(1, 1) of an IF", z.node(1, 1), 0);
        doc.due("node(2, 1) of -", z.node(2, 1), 2);
        doc.due("node(3, 1) of !", z.node(3, 1), 3);
        doc.due("node(4, 1) of a NAME", z.node(4, 1), 4);
        doc.due("node(9, 1) of a BREAK", z.node(9, 1), 13);
        doc.due("node(10, 1) of a NEXT", z.node(10, 1), 15);
        doc.due("node(9, 2), no part", z.node(9, 2), 0);
        doc.due("node(10, 2), no part", z.node(10, 2), 0);
    }

    private void numbersOfNodes() {
        doc.says("NODES are numbered from 0: a node, then its parts in order with all of theirs.");
        TinyFront x = Check.parsed("if(a+b){x=1;}else{print c;}{}");
        int[] kinds = {0, 3, 11, 18, 18, 0, 1, 19, 0, 2, 18, 0};
        for (int i = 0; i < kinds.length; i++) {
            doc.due("node(" + i + ", 0)", x.node(i, 0), kinds[i]);
        }
        doc.due("node(0, 5), the last part of the whole", x.node(0, 5), 11);
        doc.due("node(1, 5), the last part of the IF", x.node(1, 5), 8);
        doc.due("node(12, 0)", x.node(12, 0), -1);
    }

    private void heights() {
        doc.says("HEIGHT of a node is 1, and the greatest one of its parts.");
        doc.due("node(0, 3) of an empty LIST", Check.parsed("").node(0, 3), 1);
        doc.due("node(0, 3) of {}", Check.parsed("{}").node(0, 3), 2);
        doc.due("node(0, 3) of {}{}", Check.parsed("{}{}").node(0, 3), 2);
        doc.due("node(0, 3) of x=1;", Check.parsed("x=1;").node(0, 3), 3);
        doc.due("the highest first", Check.parsed("x=-1;{}").node(0, 3), 4);
        doc.due("the highest last", Check.parsed("{}x=-1;").node(0, 3), 4);
        doc.due("the highest between", Check.parsed("{}x=-1;{}").node(0, 3), 4);
        doc.due("left of a sign", Check.parsed("x=--1+1;").node(2, 3), 4);
        doc.due("right of a sign", Check.parsed("x=1+--1;").node(2, 3), 4);
        doc.due("the exp of an IF", Check.parsed("if(---1){}else{}").node(1, 3), 5);
        doc.due("the first LIST of an IF", Check.parsed("if(1){{{}}}else{}").node(1, 3), 4);
        doc.due("the second LIST of an IF", Check.parsed("if(1){}else{{{}}}").node(1, 3), 4);
    }

    /** Each shape just as high as it may be, and one higher. */
    private void highestTrees() {
        doc.says("FULL: the tree's HEIGHT is above 200.");
        doc.parse("{".repeat(199) + "}".repeat(199), 200);
        doc.parse("{".repeat(200) + "}".repeat(200), -2);
        doc.parse("{".repeat(2000) + "}".repeat(2000), -2);
        doc.parse("x=" + "!".repeat(197) + "1;", 200);
        doc.parse("x=" + "!".repeat(198) + "1;", -2);
        doc.parse("x=" + "!".repeat(3996) + "1;", -2);
        doc.parse("print 1" + "-1".repeat(197) + ";", 3 + 2 * 197);
        doc.parse("print 1" + "-1".repeat(198) + ";", -2);
        doc.parse("print 1" + "-1".repeat(1996) + ";", -2);
        doc.parse("print " + "1||(".repeat(197) + "1" + ")".repeat(197) + ";", 3 + 2 * 197);
        doc.parse("print " + "1||(".repeat(198) + "1" + ")".repeat(198) + ";", -2);
        doc.parse("if(1){".repeat(99) + "}".repeat(99), 1 + 3 * 99);
        doc.parse("if(1){".repeat(99) + "{}" + "}".repeat(99), 2 + 3 * 99);
        doc.parse("if(1){".repeat(99) + "x=1;" + "}".repeat(99), -2);
        doc.parse("if(1){".repeat(100) + "}".repeat(100), -2);
        doc.parse("while(1){".repeat(99) + "next;" + "}".repeat(99), 2 + 3 * 99);
        doc.parse("while(1){".repeat(100) + "next;" + "}".repeat(100), -2);
        doc.parse("if(0){}else{".repeat(99) + "}".repeat(99), 1 + 4 * 99);
        doc.parse("if(0){}else{".repeat(100) + "}".repeat(100), -2);
        // Neither a long LIST nor brackets make it any higher.
        doc.parse("x=1;".repeat(1000), 2001);
        TinyFront x = Check.parsed("{".repeat(199) + "}".repeat(199));
        doc.due("node(0, 3)", x.node(0, 3), 200);
        doc.due("node(199, 3)", x.node(199, 3), 1);
        doc.due("compile()", x.compile(), 1);
        doc.due("runTree(0)", x.runTree(0), 0);
        TinyFront y = Check.compiled("x=" + "!".repeat(197) + "1;");
        doc.due("runTree(100000)", y.runTree(100000), 0);
        doc.due("ran(1)", y.ran(1), 199);
        doc.due("value(0) by the tree", y.value(0), 0);
        doc.due("runCode(100000)", y.runCode(100000), 0);
        doc.due("ran(1)", y.ran(1), 200);
        doc.due("value(0) by the code", y.value(0), 0);
    }
}
