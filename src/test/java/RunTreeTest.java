/** Promise 13: runTree. */
public final class RunTreeTest {
    private static final Check CHECK = new Check("promise 13, runTree");

    public static void main(String[] args) {
        Meanings.checkAll(CHECK, true);
        refusals();
        fuelByNodes();
        fuelOfChoices();
        fuelOfLoops();
        nothingIsBegun();
        divided();
        dearestRuns();
        CHECK.end();
    }

    private static void refusals() {
        TinyFront x = Check.parsed("print 1;");
        int[] wrong = {-1, 100001, Integer.MAX_VALUE, Integer.MIN_VALUE};
        for (int fuel : wrong) {
            CHECK.due("runTree(" + fuel + ")", x.runTree(fuel), -1);
            CHECK.due("ran(0) without a run", x.ran(0), -1);
        }
        CHECK.due("runTree(100000)", x.runTree(100000), 0);
        CHECK.due("runTree(-1)", x.runTree(-1), -1);
        CHECK.due("out(0) stays", x.out(0), 1);
        CHECK.due("runTree(-1) without a tree", new TinyFront().runTree(-1), -1);
        CHECK.due("runTree(0) without a tree", new TinyFront().runTree(0), -3);
        CHECK.due("runTree(0) without parse()", Check.lexed("x=1;").runTree(0), -3);
        CHECK.due("runTree(9) of a WRONG one", Check.parsed("x=;").runTree(9), -3);
        CHECK.due("runTree(9) of a stray", Check.parsed("next;").runTree(9), -3);
        TinyFront y = Check.parsed("print 1;");
        y.runTree(9);
        y.feed(' ', 1);
        CHECK.due("runTree(9) behind feed", y.runTree(9), -3);
        CHECK.due("ran(1) of the run before", y.ran(1), 2);
    }

    /** The nodes that take fuel, in order: each amount of fuel ends behind so many of them. */
    private static void nodes(String text, int end, int... order) {
        TinyFront x = Check.parsed(text);
        for (int fuel = 0; fuel <= order.length + 1; fuel++) {
            String call = "runTree(" + fuel + ") of [" + text + "]";
            boolean enough = fuel >= order.length;
            int taken = enough ? order.length : fuel;
            CHECK.due(call, x.runTree(fuel), enough ? end : 1);
            CHECK.due(call + ", ran(1)", x.ran(1), taken);
            CHECK.due(call + ", ran(3)", x.ran(3), taken == 0 ? -1 : order[taken - 1]);
        }
    }

    private static void fuelByNodes() {
        nodes("", 0);
        nodes("{}{{}}", 0);
        nodes("x=1;", 0, 1, 2);
        nodes("{x=1;}{}{{print 2;}}", 0, 2, 3, 7, 8);
        nodes("x=1+2*-3;", 0, 1, 2, 3, 4, 5, 6, 7);
        nodes("x=(1-2)-3;print !x;", 0, 1, 2, 3, 4, 5, 6, 7, 8, 9);
        nodes("print 1&&2;", 0, 1, 2, 3, 4);
        nodes("print 0&&2;", 0, 1, 2, 3);
        nodes("print 1||2;", 0, 1, 2, 3);
        nodes("print 0||2;", 0, 1, 2, 3, 4);
        nodes("print (0&&1&&2)+5;", 0, 1, 2, 3, 4, 5, 8);
        nodes("print 0||(1&&(0||3))||7;", 0, 1, 2, 3, 4, 5, 6, 7, 8, 9);
    }

    private static void fuelOfChoices() {
        nodes("if(1){x=2;}", 0, 1, 2, 4, 5);
        nodes("if(0){x=2;}", 0, 1, 2);
        nodes("if(1){x=2;}else{x=3;}y=4;", 0, 1, 2, 4, 5, 9, 10);
        nodes("if(0){x=2;}else{x=3;}y=4;", 0, 1, 2, 7, 8, 9, 10);
        nodes("if(1){}else{x=3;}y=4;", 0, 1, 2, 7, 8);
        nodes("if(0){x=3;}else{{}{}}y=4;", 0, 1, 2, 9, 10);
    }

    private static void fuelOfLoops() {
        nodes("while(0){}", 0, 1, 1, 2);
        nodes("while(0){x=1;}y=2;", 0, 1, 1, 2, 6, 7);
        nodes("while(1){break;}y=2;", 0, 1, 1, 2, 4, 5, 6);
        nodes("while(x<1){x=x+1;}", 0, 1, 1, 2, 3, 4, 6, 7, 8, 9, 1, 2, 3, 4);
        nodes("while(x<1){x=x+1;next;x=9;}", 0,
            1, 1, 2, 3, 4, 6, 7, 8, 9, 10, 1, 2, 3, 4);
        nodes("while(1){while(1){break;}break;}", 0, 1, 1, 2, 4, 4, 5, 7, 8);
        nodes("while(1){{if(1){{break;}}}}x=1;", 0, 1, 1, 2, 5, 6, 9, 10, 11);
        nodes("while(!x){{}{x=1;{}}{{}}}", 0, 1, 1, 2, 3, 7, 8, 1, 2, 3);
    }

    private static void nothingIsBegun() {
        TinyFront x = Check.parsed("x=5;print x;y=6;");
        int[] values = {0, 0, 5, 5, 5, 5, 5};
        int[] printed = {0, 0, 0, 0, 1, 1, 1};
        int[] others = {0, 0, 0, 0, 0, 0, 6};
        for (int fuel = 0; fuel <= 6; fuel++) {
            x.runTree(fuel);
            CHECK.due("value(0) with " + fuel, x.value(0), values[fuel]);
            CHECK.due("ran(2) with " + fuel, x.ran(2), printed[fuel]);
            CHECK.due("value(1) with " + fuel, x.value(1), others[fuel]);
        }
    }

    private static void divided() {
        nodes("print 1/0;x=1;", 2, 1, 2, 3, 4);
        nodes("print 1%0+2*3;x=1;", 2, 1, 2, 3, 4, 5);
        nodes("x=7;x=3/(x-7)-1;", 2, 1, 2, 3, 4, 5, 6, 7, 8, 9);
        nodes("if(1/0){x=1;}else{x=2;}", 2, 1, 2, 3, 4);
        nodes("while(1%0){x=1;}", 2, 1, 1, 2, 3, 4);
        nodes("print 0&&1/0;", 0, 1, 2, 3);
        nodes("print 0/0||1;", 2, 1, 2, 3, 4, 5);
        TinyFront x = Check.parsed("x=4;print x;x=x/0;print 9;");
        CHECK.due("runTree(50) divided", x.runTree(50), 2);
        CHECK.due("value(0)", x.value(0), 4);
        CHECK.due("ran(2)", x.ran(2), 1);
    }

    private static void dearestRuns() {
        TinyFront x = Check.parsed("while(1){" + "{}".repeat(1990) + "}");
        CHECK.due("runTree(100000) over LISTs", x.runTree(100000), 1);
        CHECK.due("ran(1)", x.ran(1), 100000);
        String deep = "{".repeat(190) + "x=x+1;" + "}".repeat(190);
        TinyFront y = Check.parsed("while(1){" + deep + "}");
        CHECK.due("runTree(100000) in deep LISTs", y.runTree(100000), 1);
        CHECK.due("value(0)", y.value(0), 16667 - 1);
        TinyFront z = Check.parsed("x=" + "(1-".repeat(197) + "1" + ")".repeat(197) + ";");
        CHECK.due("runTree of a deep exp", z.runTree(1000), 0);
        CHECK.due("ran(1)", z.ran(1), 396);
        CHECK.due("value(0)", z.value(0), 0);
        TinyFront w = Check.parsed("while(1){" + "if(1){".repeat(98) + "}".repeat(98) + "}");
        CHECK.due("runTree(100000) of deep IFs", w.runTree(100000), 1);
    }
}
