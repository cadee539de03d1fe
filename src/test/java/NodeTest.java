/** Promise 9: node. */
public final class NodeTest {
    private static final Check CHECK = new Check("promise 9, node");

    public static void main(String[] args) {
        everyKind();
        lists();
        leftAndRight();
        wrongOnes();
        manyNodes();
        CHECK.end();
    }

    /** Rows of kind, token, parts, HEIGHT, first part and last part. */
    private static void rows(String text, int[]... want) {
        TinyFront x = Check.lexed(text);
        CHECK.due("parse() of [" + text + "]", x.parse(), want.length);
        for (int i = 0; i < want.length; i++) {
            for (int what = 0; what < 6; what++) {
                String call = "node(" + i + ", " + what + ") of [" + text + "]";
                CHECK.due(call, x.node(i, what), want[i][what]);
            }
        }
        CHECK.due("node behind all of [" + text + "]", x.node(want.length, 0), -1);
    }

    private static int[] row(int... cells) {
        return cells;
    }

    private static void everyKind() {
        rows("x=7;",
            row(0, 0, 1, 3, 1, 1), row(1, 0, 1, 2, 2, 2), row(19, 2, 0, 1, -1, -1));
        rows("if(a){}",
            row(0, 0, 1, 3, 1, 1), row(3, 0, 2, 2, 2, 3), row(18, 2, 0, 1, -1, -1),
            row(0, 4, 0, 1, -1, -1));
        rows("if(a){}else{print 1;}",
            row(0, 0, 1, 5, 1, 1), row(3, 0, 3, 4, 2, 4), row(18, 2, 0, 1, -1, -1),
            row(0, 4, 0, 1, -1, -1), row(0, 7, 1, 3, 5, 5), row(2, 8, 1, 2, 6, 6),
            row(19, 9, 0, 1, -1, -1));
        rows("while(a){break;next;}",
            row(0, 0, 1, 4, 1, 1), row(4, 0, 2, 3, 2, 3), row(18, 2, 0, 1, -1, -1),
            row(0, 4, 2, 2, 4, 5), row(5, 5, 0, 1, -1, -1), row(6, 7, 0, 1, -1, -1));
        String[] signs = {"||", "&&", "==", "<", "+", "-", "*", "/", "%"};
        for (int i = 0; i < signs.length; i++) {
            rows("print a" + signs[i] + "1;",
                row(0, 0, 1, 4, 1, 1), row(2, 0, 1, 3, 2, 2), row(7 + i, 2, 2, 2, 3, 4),
                row(18, 1, 0, 1, -1, -1), row(19, 3, 0, 1, -1, -1));
        }
        rows("print -!a;",
            row(0, 0, 1, 5, 1, 1), row(2, 0, 1, 4, 2, 2), row(16, 1, 1, 3, 3, 3),
            row(17, 2, 1, 2, 4, 4), row(18, 3, 0, 1, -1, -1));
    }

    private static void lists() {
        rows("", row(0, 0, 0, 1, -1, -1));
        rows("{}{{}}x=1;{}",
            row(0, 0, 4, 3, 1, 6), row(0, 0, 0, 1, -1, -1), row(0, 2, 1, 2, 3, 3),
            row(0, 3, 0, 1, -1, -1), row(1, 6, 1, 2, 5, 5), row(19, 8, 0, 1, -1, -1),
            row(0, 10, 0, 1, -1, -1));
    }

    private static void leftAndRight() {
        rows("x=1-2-3;",
            row(0, 0, 1, 5, 1, 1), row(1, 0, 1, 4, 2, 2), row(12, 5, 2, 3, 3, 6),
            row(12, 3, 2, 2, 4, 5), row(19, 2, 0, 1, -1, -1), row(19, 4, 0, 1, -1, -1),
            row(19, 6, 0, 1, -1, -1));
        rows("x=1-(2-3);",
            row(0, 0, 1, 5, 1, 1), row(1, 0, 1, 4, 2, 2), row(12, 3, 2, 3, 3, 4),
            row(19, 2, 0, 1, -1, -1), row(12, 6, 2, 2, 5, 6), row(19, 5, 0, 1, -1, -1),
            row(19, 7, 0, 1, -1, -1));
        rows("x=1+2*3==4;",
            row(0, 0, 1, 6, 1, 1), row(1, 0, 1, 5, 2, 2), row(9, 7, 2, 4, 3, 8),
            row(11, 3, 2, 3, 4, 5), row(19, 2, 0, 1, -1, -1), row(13, 5, 2, 2, 6, 7),
            row(19, 4, 0, 1, -1, -1), row(19, 6, 0, 1, -1, -1), row(19, 8, 0, 1, -1, -1));
    }

    private static void wrongOnes() {
        TinyFront x = Check.parsed("x=1;");
        int[] wrong = {-1, 3, 4, 4001, Integer.MAX_VALUE, Integer.MIN_VALUE};
        for (int i : wrong) {
            for (int what = 0; what < 6; what++) {
                CHECK.due("node(" + i + ", " + what + ")", x.node(i, what), -1);
            }
        }
        int[] whats = {-1, 6, 7, Integer.MAX_VALUE, Integer.MIN_VALUE};
        for (int what : whats) {
            CHECK.due("node(0, " + what + ")", x.node(0, what), -1);
        }
        x.feed(' ', 1);
        CHECK.due("node(0, 0) behind feed", x.node(0, 0), -1);
        x.lex();
        CHECK.due("node(0, 0) behind lex()", x.node(0, 0), -1);
    }

    private static void manyNodes() {
        TinyFront x = Check.parsed("{}".repeat(2000));
        CHECK.due("node(0, 2)", x.node(0, 2), 2000);
        CHECK.due("node(0, 3)", x.node(0, 3), 2);
        CHECK.due("node(0, 5)", x.node(0, 5), 2000);
        CHECK.due("node(2000, 1)", x.node(2000, 1), 3998);
        CHECK.due("node(2001, 1)", x.node(2001, 1), -1);
        TinyFront y = Check.parsed(("x=" + "-".repeat(197) + "1;").repeat(19));
        CHECK.due("node(0, 3)", y.node(0, 3), 200);
        CHECK.due("node(0, 5)", y.node(0, 5), 1 + 18 * 199);
        CHECK.due("node(1 + 18 * 199, 1)", y.node(1 + 18 * 199, 1), 18 * 201);
        CHECK.due("the last node's kind", y.node(19 * 199, 0), 19);
    }
}
