/** Promise 14: runCode. */
public final class RunCodeTest {
    private static final Check CHECK = new Check("promise 14, runCode");

    public static void main(String[] args) {
        Meanings.checkAll(CHECK, false);
        refusals();
        fuelByWords();
        nothingIsBegun();
        divided();
        dearestRuns();
        CHECK.end();
    }

    private static void refusals() {
        TinyFront x = Check.compiled("print 1;");
        int[] wrong = {-1, 100001, Integer.MAX_VALUE, Integer.MIN_VALUE};
        for (int fuel : wrong) {
            CHECK.due("runCode(" + fuel + ")", x.runCode(fuel), -1);
            CHECK.due("ran(0) without a run", x.ran(0), -1);
        }
        CHECK.due("runCode(100000)", x.runCode(100000), 0);
        CHECK.due("runCode(100001)", x.runCode(100001), -1);
        CHECK.due("out(0) stays", x.out(0), 1);
        CHECK.due("runCode(-1) without code", new TinyFront().runCode(-1), -1);
        CHECK.due("runCode(0) without code", new TinyFront().runCode(0), -3);
        TinyFront y = Check.parsed("print 1;");
        CHECK.due("runCode(9) without compile()", y.runCode(9), -3);
        CHECK.due("runTree(9) without compile()", y.runTree(9), 0);
        CHECK.due("runCode(9) still", y.runCode(9), -3);
        CHECK.due("ran(1) of the tree's run", y.ran(1), 2);
        y.compile();
        CHECK.due("runCode(9)", y.runCode(9), 0);
        CHECK.due("ran(1) of the code's run", y.ran(1), 3);
        y.parse();
        CHECK.due("runCode(9) behind parse()", y.runCode(9), -3);
        y.compile();
        y.feed(' ', 1);
        CHECK.due("runCode(9) behind feed", y.runCode(9), -3);
    }

    /** The words that take fuel, in order: each amount of fuel ends behind so many of them. */
    private static void words(String text, int end, int... order) {
        TinyFront x = Check.compiled(text);
        for (int fuel = 0; fuel <= order.length + 1; fuel++) {
            String call = "runCode(" + fuel + ") of [" + text + "]";
            boolean enough = fuel >= order.length;
            int taken = enough ? order.length : fuel;
            CHECK.due(call, x.runCode(fuel), enough ? end : 1);
            CHECK.due(call + ", ran(1)", x.ran(1), taken);
            CHECK.due(call + ", ran(3)", x.ran(3), taken == 0 ? -1 : order[taken - 1]);
        }
    }

    private static void fuelByWords() {
        words("", 0, 0);
        words("x=1;", 0, 0, 1, 2);
        words("print 1+2;", 0, 0, 1, 2, 3, 4);
        words("print 1&&2;", 0, 0, 1, 2, 3, 4, 6, 7);
        words("print 0&&2;", 0, 0, 1, 5, 6, 7);
        words("print 1||2;", 0, 0, 1, 2, 3, 6, 7);
        words("print 0||2;", 0, 0, 1, 4, 5, 6, 7);
        words("if(1){x=2;}else{x=3;}", 0, 0, 1, 2, 3, 4, 7);
        words("if(0){x=2;}else{x=3;}", 0, 0, 1, 5, 6, 7);
        words("while(0){}", 0, 0, 1, 3);
        words("while(1){break;}", 0, 0, 1, 2, 4);
        words("while(!x){x=1;next;}", 0, 0, 1, 2, 3, 4, 5, 0, 1, 2, 7);
    }

    private static void nothingIsBegun() {
        TinyFront x = Check.compiled("x=5;print x;y=6;");
        int[] values = {0, 0, 5, 5, 5, 5, 5, 5};
        int[] printed = {0, 0, 0, 0, 1, 1, 1, 1};
        int[] others = {0, 0, 0, 0, 0, 0, 6, 6};
        for (int fuel = 0; fuel <= 7; fuel++) {
            CHECK.due("runCode(" + fuel + ")", x.runCode(fuel), fuel < 7 ? 1 : 0);
            CHECK.due("value(0) with " + fuel, x.value(0), values[fuel]);
            CHECK.due("ran(2) with " + fuel, x.ran(2), printed[fuel]);
            CHECK.due("value(1) with " + fuel, x.value(1), others[fuel]);
        }
    }

    private static void divided() {
        words("print 1/0;x=1;", 2, 0, 1, 2);
        words("print 1%0+2*3;x=1;", 2, 0, 1, 2);
        words("if(1/0){x=1;}else{x=2;}", 2, 0, 1, 2);
        words("print 0&&1/0;", 0, 0, 1, 7, 8, 9);
        TinyFront x = Check.compiled("x=4;print x;x=x/0;print 9;");
        CHECK.due("runCode(50) divided", x.runCode(50), 2);
        CHECK.due("value(0)", x.value(0), 4);
        CHECK.due("ran(2)", x.ran(2), 1);
        CHECK.due("runCode(2) behind it", x.runCode(2), 1);
        CHECK.due("ran(2)", x.ran(2), 0);
    }

    private static void dearestRuns() {
        TinyFront x = Check.compiled("while(1){x=x+1;}");
        CHECK.due("runCode(100000)", x.runCode(100000), 1);
        CHECK.due("ran(1)", x.ran(1), 100000);
        CHECK.due("value(0)", x.value(0), 14285);
        TinyFront z = Check.compiled("x=" + "(1-".repeat(197) + "1" + ")".repeat(197) + ";");
        CHECK.due("runCode of a deep exp", z.runCode(1000), 0);
        CHECK.due("ran(1)", z.ran(1), 397);
        CHECK.due("value(0)", z.value(0), 0);
        TinyFront y = Check.compiled("x=" + "(2-".repeat(196) + "1" + ")".repeat(196) + ";");
        CHECK.due("runCode of another", y.runCode(1000), 0);
        CHECK.due("value(0)", y.value(0), 1);
        for (int i = 0; i < 4; i++) {
            CHECK.due("runCode with values left on the pile", y.runCode(190), 1);
        }
        CHECK.due("runCode behind them", y.runCode(1000), 0);
        CHECK.due("value(0) behind them", y.value(0), 1);
    }
}
