/** Promise 5: token. */
public final class TokenTest {
    private static final Check CHECK = new Check("promise 5, token");

    public static void main(String[] args) {
        kinds();
        wholeRows();
        worths();
        theEnd();
        wrongOnes();
        CHECK.end();
    }

    private static void row(TinyFront x, int i, int... want) {
        for (int what = 0; what < 4; what++) {
            CHECK.due("token(" + i + ", " + what + ")", x.token(i, what), want[what]);
        }
    }

    private static void kinds() {
        String[] all = {
            "", "name", "7", "print", "if", "else", "while", "break", "next", "||", "&&", "==",
            "<", "+", "-", "*", "/", "%", "!", "=", ";", "(", ")", "{", "}",
        };
        for (int kind = 1; kind < all.length; kind++) {
            TinyFront x = Check.lexed(" " + all[kind] + " ");
            row(x, 0, kind, 1, all[kind].length(), kind == 2 ? 7 : 0);
            row(x, 1, 0, 2 + all[kind].length(), 0, 0);
        }
        row(Check.lexed("Print"), 0, 1, 0, 5, 0);
        row(Check.lexed("printx"), 0, 1, 0, 6, 0);
        row(Check.lexed("nex"), 0, 1, 0, 3, 0);
        row(Check.lexed("_"), 0, 1, 0, 1, 0);
    }

    private static void wholeRows() {
        TinyFront x = Check.lexed("b1 = a12b;# b\n b1=b1===2<!34;\t");
        row(x, 0, 1, 0, 2, 0);
        row(x, 1, 19, 3, 1, 0);
        row(x, 2, 1, 5, 4, 1);
        row(x, 3, 20, 9, 1, 0);
        row(x, 4, 1, 15, 2, 0);
        row(x, 5, 19, 17, 1, 0);
        row(x, 6, 1, 18, 2, 0);
        row(x, 7, 11, 20, 2, 0);
        row(x, 8, 19, 22, 1, 0);
        row(x, 9, 2, 23, 1, 2);
        row(x, 10, 12, 24, 1, 0);
        row(x, 11, 18, 25, 1, 0);
        row(x, 12, 2, 26, 2, 34);
        row(x, 13, 20, 28, 1, 0);
        row(x, 14, 0, 30, 0, 0);
        row(x, 15, -1, -1, -1, -1);
    }

    private static void worths() {
        worth("0", 0);
        worth("007", 7);
        worth("2147483647", 2147483647);
        worth("2147483648", -2147483648);
        worth("4294967295", -1);
        worth("4294967296", 0);
        worth("4294967299", 3);
        worth("99999999999999999999", 1661992959);
        worth("18446744073709551617", 1);
        int sum = 0;
        for (int i = 0; i < 3900; i++) {
            sum = sum * 10 + 9;
        }
        worth("9".repeat(3900), sum);
    }

    private static void worth(String digits, int want) {
        TinyFront x = Check.lexed(digits);
        row(x, 0, 2, 0, digits.length(), want);
    }

    private static void theEnd() {
        row(Check.lexed(""), 0, 0, 0, 0, 0);
        row(Check.lexed("  # x"), 0, 0, 5, 0, 0);
        row(Check.lexed("7"), 1, 0, 1, 0, 0);
        TinyFront x = Check.lexed(";".repeat(4000));
        row(x, 4000, 0, 4000, 0, 0);
        CHECK.due("token(3999, 1)", x.token(3999, 1), 3999);
        CHECK.due("token(4001, 0)", x.token(4001, 0), -1);
        // An earlier, longer text must not shine through.
        TinyFront y = Check.lexed("9 9 9 9");
        y.clear();
        Check.feed(y, "x");
        y.lex();
        row(y, 1, 0, 1, 0, 0);
        row(y, 2, -1, -1, -1, -1);
    }

    private static void wrongOnes() {
        TinyFront x = Check.lexed("x=1;");
        int[] wrong = {-1, 5, 4001, 100000, Integer.MAX_VALUE, Integer.MIN_VALUE};
        for (int i : wrong) {
            CHECK.due("token(" + i + ", 0)", x.token(i, 0), -1);
        }
        int[] whats = {-1, 4, 5, Integer.MAX_VALUE, Integer.MIN_VALUE};
        for (int what : whats) {
            CHECK.due("token(2, " + what + ")", x.token(2, what), -1);
        }
        CHECK.due("token(0, 0) not lexed", Check.fed("x").token(0, 0), -1);
        CHECK.due("token(0, 0) of an ERROR", Check.lexed("x ?").token(0, 0), -1);
        TinyFront y = Check.lexed("x=1;");
        CHECK.due("parse()", y.parse(), 3);
        CHECK.due("token(2, 3) behind parse()", y.token(2, 3), 1);
    }
}
