import java.io.IOException;

/** The edges that the document names under MEANING, BY THE TREE and CODE, sentence by sentence. */
public final class EdgesOfRunsTest {
    private static final int LEAST = Integer.MIN_VALUE;
    private static final int MOST = Integer.MAX_VALUE;

    private final Sentences doc;

    private EdgesOfRunsTest() throws IOException {
        doc = new Sentences("the edges of runs");
    }

    public static void main(String[] args) throws IOException {
        EdgesOfRunsTest test = new EdgesOfRunsTest();
        test.wrapping();
        test.inputsAtFirst();
        test.oneOrZero();
        test.allButZeroIsTrue();
        test.secondPartThatDoesNotMatter();
        test.roundsToZero();
        test.dividedByZero();
        test.choices();
        test.innermostWhile();
        test.fuelOfNodes();
        test.fuelOfRounds();
        test.wholesBeforeParts();
        test.nothingIsBegun();
        test.fuelOfWords();
        test.codeOfShortCuts();
        test.codeOfLoops();
        test.highestExps();
        test.mostFuel();
        test.doc.end();
    }

    private void wrapping() {
        doc.says("Variables are ints (32 bits, wrapping)");
        doc.prints("print 2147483647+1;print 2147483648-1;", LEAST, MOST);
        doc.prints("print 2147483647+2147483647;print 2147483648+2147483648;", -2, 0);
        doc.prints("print 0-2147483648;print -2147483648;print --2147483648;", LEAST, LEAST, LEAST);
        doc.prints("print 65536*32768;print 65536*65536;print 46341*46341;", LEAST, 0, -2147479015);
        doc.prints("print 2147483648*-1;print 2147483647*2147483647;", LEAST, 1);
        doc.prints("x=2147483647;x=x+1;print x;x=x-1;print x;", LEAST, MOST);
        doc.prints("print 2147483647<2147483647+1;print 2147483648-1<0;", 0, 0);
    }

    private void inputsAtFirst() {
        doc.says("at first their INPUTS (0 if not told)");
        TinyFront x = Check.compiled("print a;print b;a=a+1;");
        x.input(0, MOST);
        for (int turn = 0; turn < 2; turn++) {
            x.runTree(100);
            doc.due("out(0) by the tree", x.out(0), MOST);
            doc.due("out(1) by the tree", x.out(1), 0);
            doc.due("value(0) by the tree", x.value(0), LEAST);
            x.runCode(100);
            doc.due("out(0) by the code", x.out(0), MOST);
            doc.due("out(1) by the code", x.out(1), 0);
            doc.due("value(0) by the code", x.value(0), LEAST);
        }
    }

    private void oneOrZero() {
        doc.says("== < ! && || give 1 or 0");
        doc.prints("print 5==5;print 5==6;print -1==4294967295;", 1, 0, 1);
        doc.prints("print 5<6;print 5<5;print 6<5;print 2147483648<2147483647;", 1, 0, 0, 1);
        doc.prints("print !0;print !5;print !-5;print !2147483648;", 1, 0, 0, 0);
        doc.prints("print 5&&6;print 5&&0;print 0&&5;print 0&&0;", 1, 0, 0, 0);
        doc.prints("print 5||6;print 5||0;print 0||5;print 0||0;", 1, 1, 1, 0);
        doc.prints("print 5&&6&&7;print 0||0||7;", 1, 1);
    }

    private void allButZeroIsTrue() {
        doc.says("all but 0 is true");
        String[] values = {"1", "2", "-1", "2147483647", "2147483648", "256", "65536"};
        for (String v : values) {
            doc.prints("if(" + v + "){print 1;}else{print 2;}", 1);
            doc.prints("while(" + v + "){print 1;break;}", 1);
            doc.prints("print " + v + "&&" + v + ";print 0||" + v + ";print !" + v + ";", 1, 1, 0);
            doc.prints("print " + v + "&&0;print 0&&" + v + ";print " + v + "||0;", 0, 0, 1);
        }
        doc.prints("if(0){print 1;}else{print 2;}while(0){print 3;}", 2);
        doc.prints("if(4294967296){print 1;}else{print 2;}while(4294967296){print 3;}", 2);
    }

    private void secondPartThatDoesNotMatter() {
        doc.says("&& and || look at their second part only if it matters");
        doc.prints("print 0&&1/0;print 1||1/0;print -1||1%0;", 0, 1, 1);
        doc.prints("print 0&&(1||1/0);print 1||0&&1/0;print (0&&1/0)||1||1/0;", 0, 1, 1);
        doc.prints("if(0&&1/0){print 1;}while(0&&1/0){}if(1||1/0){print 2;}", 2);
        doc.divides("print 1;print 1&&1/0;", 1);
        doc.divides("print 1;print 0||1/0;", 1);
        doc.divides("print 1/0&&0;", 0);
        doc.divides("print 1/0||1;", 0);
        doc.treeNeeds("print 0&&-1;", 0, 3);
        doc.treeNeeds("print 1&&-1;", 0, 5);
        doc.treeNeeds("print 1||-1;", 0, 3);
        doc.treeNeeds("print 0||-1;", 0, 5);
        doc.treeNeeds("print (0&&--1)+7;", 0, 5);
        doc.treeNeeds("print -1&&--1;", 0, 7);
        doc.treeNeeds("print -1||--1;", 0, 4);
    }

    private void roundsToZero() {
        doc.says("/ rounds to 0, % has the sign of the first");
        doc.prints("print 7/2;print -7/2;print 7/-2;print -7/-2;", 3, -3, -3, 3);
        doc.prints("print 7%2;print -7%2;print 7%-2;print -7%-2;", 1, -1, 1, -1);
        doc.prints("print 1/2;print -1/2;print 0/-5;print 0%-5;print -4%2;", 0, 0, 0, 0, 0);
        doc.prints("print 2147483648/-1;print 2147483648%-1;", LEAST, 0);
        doc.prints("print 2147483648/1;print 2147483648%1;", LEAST, 0);
        doc.prints("print 2147483648/2147483648;print 2147483647/2147483648;", 1, 0);
        doc.prints("print 2147483648%2147483647;print 2147483647%2147483648;", -1, MOST);
        doc.prints("x=2147483648;y=-1;print x/y;print x%y;print x/y/y;", LEAST, 0, LEAST);
    }

    private void dividedByZero() {
        doc.says("by 0 it is DIVIDED");
        String[] texts = {
            "print 1/0;", "print 1%0;", "print 0/0;", "print 0%0;", "print 2147483648/0;",
            "x=1/y;", "x=1%(y-y);", "x=1/4294967296;", "if(1/0){print 1;}else{print 2;}",
            "while(1/0){print 1;}", "print 1+2*(3-4/0);", "print -(1/0);", "print !(1%0);",
        };
        for (String text : texts) {
            doc.divides(text, 0);
            doc.divides("print 7;" + text + "print 8;", 1);
        }
        TinyFront x = Check.compiled("x=3;x=x/y;x=4;");
        doc.due("runTree(50)", x.runTree(50), 2);
        doc.due("value(0) by the tree", x.value(0), 3);
        doc.due("ran(1) by the tree", x.ran(1), 6);
        doc.due("ran(3) by the tree", x.ran(3), 6);
        doc.due("runCode(50)", x.runCode(50), 2);
        doc.due("value(0) by the code", x.value(0), 3);
        doc.due("ran(1) by the code", x.ran(1), 5);
        doc.due("ran(3) by the code", x.ran(3), 4);
        doc.treeNeeds("print 1/0;", 2, 4);
        doc.codeNeeds("print 1/0;", 2, 3);
        // It is not DIVIDED any more when the next run begins.
        x.input(1, 1);
        doc.due("runTree(50) again", x.runTree(50), 0);
        doc.due("runCode(50) again", x.runCode(50), 0);
    }

    private void choices() {
        doc.says("IF and WHILE as usual");
        doc.prints("if(1){}print 1;", 1);
        doc.prints("if(0){print 1;}print 2;", 2);
        doc.prints("if(1){print 1;}else{print 2;}print 3;", 1, 3);
        doc.prints("if(0){print 1;}else{print 2;}print 3;", 2, 3);
        doc.prints("if(1){if(0){print 1;}}else{print 2;}print 3;", 3);
        doc.prints("while(0){print 1;}print 2;", 2);
        doc.prints("while(i<3){i=i+1;}print i;", 3);
    }

    private void innermostWhile() {
        doc.says("BREAK ends the innermost WHILE, NEXT its round.");
        doc.prints("while(i<2){i=i+1;while(1){break;}print i;}", 1, 2);
        doc.prints("while(i<2){i=i+1;while(j<i){j=j+1;next;print 9;}print i;}", 1, 2);
        doc.prints("while(1){{{if(1){{break;}}}}print 9;}print 1;", 1);
        doc.prints("while(i<2){i=i+1;{{if(i==1){{next;}}}}print i;}", 2);
        doc.prints("while(1){while(1){break;}while(1){break;}print 1;break;}print 2;", 1, 2);
        doc.prints("while(i<3){i=i+1;if(i==2){next;}else{print i;}}", 1, 3);
    }

    private void fuelOfNodes() {
        doc.says("each statement (no LIST) and each exp takes 1 of fuel when it begins");
        doc.treeNeeds("", 0, 0);
        doc.treeNeeds("{}{{}}{}", 0, 0);
        doc.treeNeeds("x=1;", 0, 2);
        doc.treeNeeds("{{x=1;}}", 0, 2);
        doc.treeNeeds("print (((1)));", 0, 2);
        doc.treeNeeds("print 1+2;", 0, 4);
        doc.treeNeeds("print -!x;", 0, 4);
        doc.treeNeeds("if(0){x=1;}", 0, 2);
        doc.treeNeeds("if(1){x=1;}", 0, 4);
        doc.treeNeeds("if(1){}else{x=1;}", 0, 2);
        doc.treeNeeds("if(0){}else{x=1;}", 0, 4);
    }

    private void fuelOfRounds() {
        doc.says("a WHILE also for each round, before its exp");
        doc.treeNeeds("while(0){}", 0, 3);
        doc.treeNeeds("while(1){break;}", 0, 4);
        doc.treeNeeds("while(!x){x=1;}", 0, 9);
        doc.treeNeeds("while(!x){x=1;next;}", 0, 10);
        doc.treeNeeds("while(1){while(1){break;}break;}", 0, 8);
        TinyFront x = Check.parsed("while(!x){x=1;}");
        int[] began = {-1, 1, 1, 2, 3, 5, 6, 1, 2, 3};
        for (int fuel = 0; fuel < began.length; fuel++) {
            x.runTree(fuel);
            doc.due("ran(3) of runTree(" + fuel + ")", x.ran(3), began[fuel]);
        }
        TinyFront y = Check.parsed("while(1){}");
        doc.due("runTree(100000)", y.runTree(100000), 1);
        doc.due("ran(1)", y.ran(1), 100000);
        doc.due("ran(3), a round", y.ran(3), 1);
        doc.due("runTree(99999)", y.runTree(99999), 1);
        doc.due("ran(3), an exp", y.ran(3), 2);
    }

    private void wholesBeforeParts() {
        doc.says("from the left to the right (a whole before its parts)");
        TinyFront x = Check.parsed("x=1+2*3-4;");
        for (int fuel = 1; fuel <= 8; fuel++) {
            x.runTree(fuel);
            doc.due("ran(3) of runTree(" + fuel + ")", x.ran(3), fuel);
        }
    }

    private void nothingIsBegun() {
        doc.says("When there is none left, it ENDS, nothing of that being begun.");
        TinyFront x = Check.compiled("x=5;print x;x=6;");
        int[] values = {0, 0, 5, 5, 5, 5, 6};
        int[] printed = {0, 0, 0, 0, 1, 1, 1};
        for (int fuel = 0; fuel < values.length; fuel++) {
            String run = " of runTree(" + fuel + ")";
            doc.due("how" + run, x.runTree(fuel), fuel < 6 ? 1 : 0);
            doc.due("value(0)" + run, x.value(0), values[fuel]);
            doc.due("ran(2)" + run, x.ran(2), printed[fuel]);
        }
        for (int fuel = 0; fuel < values.length; fuel++) {
            String run = " of runCode(" + fuel + ")";
            doc.due("how" + run, x.runCode(fuel), 1);
            doc.due("value(0)" + run, x.value(0), values[fuel]);
            doc.due("ran(2)" + run, x.ran(2), printed[fuel]);
        }
        // It ENDS before the exp: what would be DIVIDED there has not begun.
        TinyFront y = Check.compiled("x=1/0;");
        doc.due("runTree(3) of 1/0", y.runTree(3), 1);
        doc.due("runCode(2) of 1/0", y.runCode(2), 1);
    }

    private void fuelOfWords() {
        doc.says("BY THE CODE each word takes 1 of fuel when it begins (HALT, too).");
        doc.codeNeeds("", 0, 1);
        doc.codeNeeds("{}{{}}", 0, 1);
        doc.codeNeeds("x=1;", 0, 3);
        doc.codeNeeds("print 1+2;", 0, 5);
        doc.codeNeeds("if(0){x=1;}", 0, 3);
        doc.codeNeeds("if(1){x=1;}", 0, 5);
        doc.codeNeeds("if(1){}else{}", 0, 4);
        doc.codeNeeds("if(0){}else{}", 0, 3);
        doc.codeNeeds("while(0){}", 0, 3);
        doc.codeNeeds("while(1){break;}", 0, 4);
        doc.codeNeeds("while(!x){x=1;}", 0, 10);
        doc.codeNeeds("while(!x){x=1;next;}", 0, 10);
        TinyFront x = Check.compiled("x=1;");
        doc.due("runCode(2), HALT not begun", x.runCode(2), 1);
        doc.due("ran(3)", x.ran(3), 1);
        doc.due("runCode(3)", x.runCode(3), 0);
        doc.due("ran(3), HALT", x.ran(3), 2);
    }

    private void codeOfShortCuts() {
        doc.says("a && b: a, UNLESS f, b, TRUTH, JUMP e, f: PUSH 0, e: .");
        doc.codeNeeds("print 0&&2;", 0, 5);
        doc.codeNeeds("print 1&&2;", 0, 7);
        words("print 7&&8;", 0, 7, 14, 5, 0, 8, 12, 0, 13, 6, 0, 0, 15, 0, 16, 0);
        doc.says("a || b: a, UNLESS f, PUSH 1, JUMP e, f: b, TRUTH, e: .");
        doc.codeNeeds("print 1||2;", 0, 6);
        doc.codeNeeds("print 0||2;", 0, 6);
        words("print 7||8;", 0, 7, 14, 4, 0, 1, 13, 6, 0, 8, 12, 0, 15, 0, 16, 0);
    }

    private void codeOfLoops() {
        doc.says("BREAK: JUMP e, NEXT: JUMP r, of the innermost one.");
        words("x=5;while(6){break;next;}", 0, 5, 2, 0, 0, 6, 14, 7, 13, 7, 13, 2, 13, 2, 16, 0);
        words("while(1){while(2){next;}next;break;}",
            0, 1, 14, 9, 0, 2, 14, 6, 13, 2, 13, 2, 13, 0, 13, 9, 13, 0, 16, 0);
        doc.says("Behind all HALT.");
        words("", 16, 0);
        words("{}{{}}", 16, 0);
    }

    /** Words and operands by turns. */
    private void words(String text, int... want) {
        TinyFront x = Check.parsed(text);
        doc.due("compile() of [" + text + "]", x.compile(), want.length / 2);
        for (int i = 0; i < want.length; i++) {
            String call = "code(" + i / 2 + ", " + i % 2 + ") of [" + text + "]";
            doc.due(call, x.code(i / 2, i % 2), want[i]);
        }
        doc.due("behind all of [" + text + "]", x.code(want.length / 2, 0), -1);
    }

    /** The pile holds as many values as the highest tree asks for, run by run. */
    private void highestExps() {
        doc.says("both the tree and the code run with so much fuel to the same end");
        TinyFront x = Check.compiled("x=" + "(3-".repeat(197) + "1" + ")".repeat(197) + ";");
        for (int turn = 0; turn < 4; turn++) {
            doc.due("runCode(197), values left on the pile", x.runCode(197), 1);
            doc.due("runCode(100000)", x.runCode(100000), 0);
            doc.due("ran(1) by the code", x.ran(1), 397);
            doc.due("value(0) by the code", x.value(0), 2);
            doc.due("runTree(197)", x.runTree(197), 1);
            doc.due("runTree(100000)", x.runTree(100000), 0);
            doc.due("ran(1) by the tree", x.ran(1), 396);
            doc.due("value(0) by the tree", x.value(0), 2);
        }
    }

    /** Runs that take all the fuel there can be to their last node or word, and not one more. */
    private void mostFuel() {
        doc.says("The tree is run with so much fuel (0 .. 100000)");
        TinyFront x = Check.compiled("while(i<n){i=i+1;}print -1;");
        x.input(1, 12499);
        exact(x, "runTree(100000)", x.runTree(100000), 0, 100000, 1);
        exact(x, "runTree(99999)", x.runTree(99999), 1, 99999, 0);
        TinyFront y = Check.compiled("while(i<n){i=i+1;}print 1;print -1;");
        y.input(1, 11110);
        exact(y, "runCode(100000)", y.runCode(100000), 0, 100000, 2);
        exact(y, "runCode(99999)", y.runCode(99999), 1, 99999, 2);
        exact(y, "runCode(99998)", y.runCode(99998), 1, 99998, 1);
    }

    private void exact(TinyFront x, String run, int got, int how, int taken, int printed) {
        doc.due(run, got, how);
        doc.due("ran(1) of " + run, x.ran(1), taken);
        doc.due("ran(2) of " + run, x.ran(2), printed);
    }
}
