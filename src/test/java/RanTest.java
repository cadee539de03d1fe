/** Promise 15: ran. */
public final class RanTest {
    public static void main(String[] args) {
        Check check = new Check("promise 15, ran");
        eachEnd(check);
        latestRun(check);
        manyPrinted(check);
        withoutARun(check);
        wrongOnes(check);
        check.end();
    }

    private static void rows(Check check, String run, TinyFront x, int... want) {
        for (int what = 0; what < 4; what++) {
            check.due("ran(" + what + ") of " + run, x.ran(what), want[what]);
        }
    }

    private static void eachEnd(Check check) {
        TinyFront x = Check.compiled("print 8;print 1/a;print 9;");
        x.runTree(50);
        rows(check, "the tree, divided", x, 2, 6, 1, 6);
        x.runCode(50);
        rows(check, "the code, divided", x, 2, 5, 1, 4);
        x.input(0, 1);
        x.runTree(50);
        rows(check, "the tree, to the end", x, 0, 8, 3, 8);
        x.runCode(50);
        rows(check, "the code, to the end", x, 0, 9, 3, 8);
        x.runTree(7);
        rows(check, "the tree, without fuel", x, 1, 7, 2, 7);
        x.runCode(8);
        rows(check, "the code, without fuel", x, 1, 8, 3, 7);
        x.runTree(8);
        rows(check, "the tree, fuel to the last", x, 0, 8, 3, 8);
        x.runTree(0);
        rows(check, "the tree, no fuel", x, 1, 0, 0, -1);
        x.runCode(0);
        rows(check, "the code, no fuel", x, 1, 0, 0, -1);
    }

    private static void latestRun(Check check) {
        TinyFront x = Check.compiled("x=1;");
        x.runCode(50);
        rows(check, "the code", x, 0, 3, 0, 2);
        check.due("runTree(-1)", x.runTree(-1), -1);
        rows(check, "the code still", x, 0, 3, 0, 2);
        x.runTree(50);
        rows(check, "the tree", x, 0, 2, 0, 2);
        x.parse();
        x.runCode(50);
        rows(check, "the tree behind parse()", x, 0, 2, 0, 2);
        x.compile();
        rows(check, "the tree behind compile()", x, 0, 2, 0, 2);
        x.feed(' ', 1);
        x.runTree(50);
        rows(check, "the tree behind feed", x, 0, 2, 0, 2);
        TinyFront y = Check.parsed("");
        y.runTree(0);
        rows(check, "no statement", y, 0, 0, 0, -1);
    }

    private static void manyPrinted(Check check) {
        TinyFront x = Check.compiled("while(1){print 1;}");
        x.runTree(100000);
        rows(check, "many by the tree", x, 1, 100000, 24999, 4);
        x.runCode(100000);
        rows(check, "many by the code", x, 1, 100000, 20000, 4);
        TinyFront y = Check.compiled("while(i<a){print i;i=i+1;}");
        int[] limits = {999, 1000, 1001, 5000};
        for (int limit : limits) {
            y.input(1, limit);
            y.runTree(100000);
            check.due("ran(2) of " + limit + " by the tree", y.ran(2), limit);
            y.runCode(100000);
            check.due("ran(2) of " + limit + " by the code", y.ran(2), limit);
        }
    }

    private static void withoutARun(Check check) {
        TinyFront x = new TinyFront();
        rows(check, "a new object", x, -1, -1, -1, -1);
        Check.feed(x, "print 5;");
        x.lex();
        x.parse();
        rows(check, "a tree that was not run", x, -1, -1, -1, -1);
        x.runTree(9);
        rows(check, "a run", x, 0, 2, 1, 2);
        x.lex();
        rows(check, "none since lex()", x, -1, -1, -1, -1);
        check.due("out(0)", x.out(0), 0);
        x.runTree(9);
        rows(check, "none by NOT_YET", x, -1, -1, -1, -1);
        x.parse();
        x.runTree(9);
        rows(check, "a run again", x, 0, 2, 1, 2);
        x.clear();
        rows(check, "none since clear()", x, -1, -1, -1, -1);
        check.due("out(0)", x.out(0), 0);
    }

    private static void wrongOnes(Check check) {
        TinyFront x = Check.parsed("x=1;");
        x.runTree(9);
        int[] wrong = {-1, 4, 5, Integer.MAX_VALUE, Integer.MIN_VALUE};
        for (int what : wrong) {
            check.due("ran(" + what + ")", x.ran(what), -1);
        }
    }
}
