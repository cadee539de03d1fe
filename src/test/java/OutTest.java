/** Promise 16: out. */
public final class OutTest {
    public static void main(String[] args) {
        Check check = new Check("promise 16, out");
        values(check);
        firstThousand(check);
        noneSuch(check);
        onlyOfTheLatestRun(check);
        check.end();
    }

    private static void values(Check check) {
        TinyFront x = Check.compiled("print 3;print -4;print 2147483648;print 0;print 7;");
        int[] want = {3, -4, Integer.MIN_VALUE, 0, 7, 0};
        x.runTree(100);
        for (int i = 0; i < want.length; i++) {
            check.due("out(" + i + ") by the tree", x.out(i), want[i]);
        }
        x.runCode(100);
        for (int i = 0; i < want.length; i++) {
            check.due("out(" + i + ") by the code", x.out(i), want[i]);
        }
    }

    private static void firstThousand(Check check) {
        TinyFront x = Check.compiled("while(1){i=i+1;print i;}");
        for (int engine = 0; engine < 2; engine++) {
            int how = engine == 0 ? x.runTree(100000) : x.runCode(100000);
            check.due("a long run", how, 1);
            check.due("ran(2) is above 1000", x.ran(2) > 1000 ? 1 : 0, 1);
            int[] places = {0, 1, 500, 998, 999};
            for (int i : places) {
                check.due("out(" + i + ")", x.out(i), i + 1);
            }
            check.due("out(1000)", x.out(1000), 0);
            check.due("out(1001)", x.out(1001), 0);
        }
    }

    private static void noneSuch(Check check) {
        check.due("out(0) of a new object", new TinyFront().out(0), 0);
        TinyFront x = Check.parsed("print 5;print 6;");
        check.due("out(0) without a run", x.out(0), 0);
        x.runTree(100);
        int[] wrong = {-1, 2, 999, 1000, 1001, Integer.MAX_VALUE, Integer.MIN_VALUE};
        for (int i : wrong) {
            check.due("out(" + i + ")", x.out(i), 0);
        }
        check.due("out(1)", x.out(1), 6);
        x.lex();
        check.due("out(1) behind lex()", x.out(1), 0);
        x.parse();
        x.runTree(100);
        x.clear();
        check.due("out(1) behind clear()", x.out(1), 0);
    }

    private static void onlyOfTheLatestRun(Check check) {
        TinyFront x = Check.compiled("print 5;print 6;");
        x.runTree(100);
        x.runTree(2);
        check.due("out(0) of the shorter run", x.out(0), 5);
        check.due("out(1) of the shorter run", x.out(1), 0);
        x.runCode(3);
        check.due("out(1) by the code", x.out(1), 0);
        x.runCode(4);
        check.due("out(1) by the code", x.out(1), 6);
        x.feed(' ', 1);
        check.due("out(1) behind feed", x.out(1), 6);
        x.runCode(1);
        check.due("out(1) behind NOT_YET", x.out(1), 6);
    }
}
