import java.io.IOException;

/** The edges that the document names under TOKENS, sentence by sentence. */
public final class EdgesOfTokensTest {
    private static final int NAME = 1;
    private static final int NUMBER = 2;
    private static final int SAME = 11;
    private static final int LESS = 12;
    private static final int NOT = 18;
    private static final int BECOMES = 19;

    private final Sentences doc;

    private EdgesOfTokensTest() throws IOException {
        doc = new Sentences("the edges of tokens");
    }

    public static void main(String[] args) throws IOException {
        EdgesOfTokensTest test = new EdgesOfTokensTest();
        test.text();
        test.blanks();
        test.remarks();
        test.longest();
        test.names();
        test.words();
        test.numbers();
        test.signs();
        test.kinds();
        test.errorWhereNoneBegins();
        test.errorOfALongName();
        test.errorOfSlot32();
        test.slots();
        test.doc.end();
    }

    private void text() {
        doc.says("The TEXT is bytes 0 .. 255, 4000 at most.");
        StringBuilder all = new StringBuilder("#");
        for (char b = 0; b < 256; b++) {
            all.append(b == 10 ? ' ' : b);
        }
        doc.lex(all + "\n;", 1);
        doc.lex(";".repeat(3999), 3999);
        doc.lex(";".repeat(4000), 4000);
        TinyFront x = Check.fed(";".repeat(4000));
        doc.due("feed of byte 4001", x.feed(';', 1), -2);
        doc.due("lex() behind it", x.lex(), 4000);
    }

    private void blanks() {
        doc.says("BLANKS are 9, 10, 13, 32, and REMARKS");
        char[] blanks = {9, 10, 13, 32};
        for (char b : blanks) {
            doc.lex(String.valueOf(b), 0);
            doc.lex(b + "x" + b + "y" + b, 2);
            doc.lex(String.valueOf(b).repeat(4000), 0);
        }
        char[] others = {0, 1, 8, 11, 12, 14, 31, 127, 128, 133, 160, 255};
        for (char b : others) {
            doc.lex(String.valueOf(b), -10);
            doc.lex("x" + b, -11);
        }
    }

    private void remarks() {
        doc.says("# and all up to the next byte 10 (without it) or the end.");
        doc.lex("#", 0);
        doc.lex("x#", 1);
        doc.lex("#x", 0);
        doc.lex("x# y z", 1);
        doc.lex("#\n", 0);
        doc.lex("#\nx", 1);
        doc.lex("#\rx", 0);
        doc.lex("#x\r\ny", 1);
        doc.lex("##x\n#\n#y", 0);
        doc.lex("a#b#c\nd#e\nf", 3);
        doc.lex("a#\nb", 2);
        doc.lex("#" + "x".repeat(3999), 0);
        doc.lex(";".repeat(3999) + "#", 3999);
        TinyFront x = Check.lexed("x#?\n\ny#?");
        doc.due("token(1, 1), the name behind a remark", x.token(1, 1), 5);
        doc.due("token(2, 0), THE END behind a remark", x.token(2, 0), 0);
        doc.due("token(2, 1), THE END behind a remark", x.token(2, 1), 8);
        // A remark does not go on into bytes that are fed behind a line's end.
        TinyFront y = Check.fed("#x");
        doc.due("lex() of #x", y.lex(), 0);
        y.feed('y', 1);
        doc.due("lex() of #xy", y.lex(), 0);
        y.feed(10, 1);
        y.feed('z', 1);
        doc.due("lex() of #xy, 10, z", y.lex(), 1);
    }

    private void longest() {
        doc.says("Else a token is the longest that begins at a place");
        doc.kinds("=", BECOMES);
        doc.kinds("==", SAME);
        doc.kinds("===", SAME, BECOMES);
        doc.kinds("====", SAME, SAME);
        doc.kinds("= =", BECOMES, BECOMES);
        doc.kinds("=\n=", BECOMES, BECOMES);
        doc.kinds("=#\n=", BECOMES, BECOMES);
        doc.kinds("<==", LESS, SAME);
        doc.kinds("!==", NOT, SAME);
        doc.kinds("!=", NOT, BECOMES);
        doc.kinds("||||", 9, 9);
        doc.kinds("&&&&", 10, 10);
        doc.kinds("a1b2", NAME);
        doc.kinds("1a2", NUMBER, NAME);
        doc.kinds("12 34", NUMBER, NUMBER);
        doc.kinds("if1", NAME);
        doc.kinds("1if", NUMBER, 4);
        doc.kinds("elseif", NAME);
        doc.kinds("else if", 5, 4);
        doc.kinds("if(", 4, 21);
    }

    private void names() {
        doc.says("a NAME (letters a .. z, A .. Z, _, and digits not first)");
        doc.kinds("a", NAME);
        doc.kinds("z", NAME);
        doc.kinds("A", NAME);
        doc.kinds("Z", NAME);
        doc.kinds("_", NAME);
        doc.kinds("azAZ_09", NAME);
        doc.kinds("__", NAME);
        doc.kinds("_0", NAME);
        doc.kinds("0_", NUMBER, NAME);
        doc.kinds("9a", NUMBER, NAME);
        char[] beside = {'`', '@', '[', '^', ':', '~', 192, 'z' + 128};
        for (char b : beside) {
            doc.lex("a" + b, -11);
        }
        doc.kinds("a{", NAME, 23);
        doc.kinds("a/", NAME, 16);
    }

    private void words() {
        doc.says("but print if else while break next are WORDS");
        String[] words = {"print", "if", "else", "while", "break", "next"};
        for (int i = 0; i < words.length; i++) {
            String word = words[i];
            doc.kinds(word, 3 + i);
            doc.due("slots() of " + word, Check.lexed(word).slots(), 0);
            doc.due("token(0, 3) of " + word, Check.lexed("x " + word).token(1, 3), 0);
            doc.kinds(word.substring(1), NAME);
            doc.kinds(word.substring(0, word.length() - 1), NAME);
            doc.kinds(word + "s", NAME);
            doc.kinds(word + "_", NAME);
            doc.kinds(word + "0", NAME);
            doc.kinds("_" + word, NAME);
            doc.kinds(word.toUpperCase(), NAME);
            doc.kinds(word.substring(0, 1).toUpperCase() + word.substring(1), NAME);
        }
    }

    private void numbers() {
        doc.says("a NUMBER (digits; worth modulo 2^32, as an int)");
        String[] digits = {
            "0", "9", "00", "0010", "2147483646", "2147483647", "2147483648", "2147483649",
            "4294967295", "4294967296", "4294967297", "4294967294", "4294967293", "9999999999",
            "9223372036854775807", "9223372036854775808", "18446744073709551615",
            "18446744073709551616", "18446744073709551621", "1" + "0".repeat(31),
            "1" + "0".repeat(32), "1" + "0".repeat(3999), "7".repeat(4000),
        };
        for (String number : digits) {
            TinyFront x = Check.fed(number);
            int want = new java.math.BigInteger(number).intValue();
            doc.due("lex() of " + number, x.lex(), 1);
            doc.due("token(0, 0) of " + number, x.token(0, 0), NUMBER);
            doc.due("token(0, 2) of " + number, x.token(0, 2), number.length());
            doc.due("token(0, 3) of " + number, x.token(0, 3), want);
        }
        doc.kinds("-1", 14, NUMBER);
        doc.prints("print 4294967295;print 4294967296;print 2147483648;", -1, 0, -2147483648);
        doc.lex("0x1", 2);
        doc.lex("1.5", -11);
    }

    private void signs() {
        doc.says("SIGNS || && == < + - * / % ! = ; ( ) { } .");
        doc.lex("|", -10);
        doc.lex("&", -10);
        doc.lex("|&", -10);
        doc.lex("&|", -10);
        doc.lex("| |", -10);
        doc.lex("&\n&", -10);
        doc.lex("x||", 2);
        doc.lex("x|||", -13);
        doc.lex("x&&&", -13);
        String none = ".,:>?[]\\^~@$'\"`";
        for (int i = 0; i < none.length(); i++) {
            doc.lex(none.substring(i, i + 1), -10);
        }
        // The second half of a sign is not taken from the bytes of an earlier, longer text.
        TinyFront x = Check.fed("x||");
        doc.due("lex() of x||", x.lex(), 2);
        x.clear();
        Check.feed(x, "x|");
        doc.due("lex() of x| behind it", x.lex(), -11);
    }

    private void kinds() {
        doc.says("KINDS: 0 THE END, 1 NAME, 2 NUMBER, 3 print, 4 if, 5 else, 6 while, 7 break,"
            + " 8 next, 9 ||, 10 &&, 11 ==, 12 <, 13 +, 14 -, 15 *, 16 /, 17 %, 18 !, 19 =,"
            + " 20 ;, 21 (, 22 ), 23 {, 24 }.");
        doc.kinds("");
        doc.kinds("x 7 print if else while break next || && == < + - * / % ! = ; ( ) { }",
            1, 2, 3, 4, 5, 6, 7, 8, 9, 10, 11, 12, 13, 14, 15, 16, 17, 18, 19, 20, 21, 22, 23, 24);
        doc.says("of a NAME its slot, of a NUMBER its worth, else 0 (3)");
        TinyFront x = Check.lexed("print if else while break next||&&==<+-*/%!=;(){}");
        for (int i = 0; i < 22; i++) {
            doc.due("token(" + i + ", 0)", x.token(i, 0), 3 + i);
            doc.due("token(" + i + ", 3)", x.token(i, 3), 0);
        }
    }

    private void errorWhereNoneBegins() {
        doc.says("ERROR: the first place at which none begins");
        doc.lex("?", -10);
        doc.lex(" ?", -11);
        doc.lex(";?", -11);
        doc.lex("x?y?", -11);
        doc.lex("?#?", -10);
        doc.lex("#?\n?", -13);
        doc.lex("x=1;\n$", -15);
        doc.lex(" ".repeat(3999) + "?", -4009);
        doc.lex(";".repeat(3999) + "|", -4009);
        doc.lex("? abcdefghijklmnopq", -10);
    }

    private void errorOfALongName() {
        doc.says("or at which a NAME of more than 16 bytes begins");
        String longest = "abcdefghij_ABC19";
        doc.lex(longest, 1);
        doc.lex(longest + " " + longest, 2);
        doc.lex(longest + "=1;", 4);
        doc.lex(longest + "x", -10);
        doc.lex(longest + "0", -10);
        doc.lex(longest + "_", -10);
        doc.lex(longest + "#x", 1);
        doc.lex(" " + longest + "x", -11);
        doc.lex(longest + " " + longest + "x", -27);
        doc.lex(longest + "x ?", -10);
        doc.lex("a".repeat(4000), -10);
        doc.lex(" ".repeat(3984) + longest, 1);
        doc.lex(" ".repeat(3983) + longest + "x", -10 - 3983);
        // A NUMBER may be as long as it likes, and so may a remark.
        doc.lex("12345678901234567", 1);
        doc.lex("# " + longest + "x", 0);
        doc.due("token(0, 2)", Check.lexed(longest).token(0, 2), 16);
        doc.due("token(0, 0) of an ERROR", Check.lexed(longest + "x").token(0, 0), -1);
    }

    private static String differentNames(int count) {
        StringBuilder names = new StringBuilder();
        for (int i = 0; i < count; i++) {
            names.append("v").append(i).append(' ');
        }
        return names.toString();
    }

    private void errorOfSlot32() {
        doc.says("or one that would have slot 32.");
        String most = differentNames(32);
        doc.lex(differentNames(31) + "x", 32);
        doc.lex(most, 32);
        doc.lex(most + most, 64);
        doc.lex(most + "v0 v31 print 7 while", 37);
        doc.lex(most + "x", -10 - most.length());
        doc.lex(most + "v", -10 - most.length());
        doc.lex(most + "v310", -10 - most.length());
        doc.lex(most + "V0", -10 - most.length());
        doc.lex(most + "v0 x y", -10 - most.length() - 3);
        doc.lex(most + "# x", 32);
        doc.lex(most + "? x", -10 - most.length());
        doc.lex("print if " + most + "else", 35);
        TinyFront x = Check.lexed(most);
        doc.due("token(31, 3)", x.token(31, 3), 31);
        doc.due("slots()", x.slots(), 32);
        // Slots are counted anew by each lex().
        Check.feed(x, "x");
        doc.due("lex() with one more", x.lex(), -10 - most.length());
        x.clear();
        Check.feed(x, "y");
        doc.due("lex() of another text", x.lex(), 1);
        doc.due("token(0, 3) of it", x.token(0, 3), 0);
    }

    private void slots() {
        doc.says("Different NAMES (no WORDS) have SLOTS 0, 1, .. in the order in which they come.");
        TinyFront x = Check.lexed("b if a b A print _ a abcdefghijklmnop abcdefghijklmnoq");
        int[] want = {0, 0, 1, 0, 2, 0, 3, 1, 4, 5};
        for (int i = 0; i < want.length; i++) {
            doc.due("token(" + i + ", 3)", x.token(i, 3), want[i]);
        }
        doc.due("slots()", x.slots(), 6);
    }
}
