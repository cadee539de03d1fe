/** Promise 6: slots. */
public final class SlotsTest {
    public static void main(String[] args) {
        Check check = new Check("promise 6, slots");
        counts(check);
        order(check);
        withoutTokens(check);
        check.end();
    }

    private static void counts(Check check) {
        check.due("no name", Check.lexed("").slots(), 0);
        check.due("words alone", Check.lexed("print if else while break next").slots(), 0);
        check.due("one twice", Check.lexed("x x").slots(), 1);
        check.due("big and small", Check.lexed("x X _x x_").slots(), 4);
        check.due("one the beginning of another", Check.lexed("a ab abc ab a").slots(), 3);
        check.due("longest ones", Check.lexed("abcdefghijklmnop abcdefghijklmnoq").slots(), 2);
        check.due("names in a remark", Check.lexed("a # b c\nd").slots(), 2);
        StringBuilder names = new StringBuilder();
        for (int i = 0; i < 32; i++) {
            names.append('v').append(i).append(' ');
        }
        check.due("32 of them", Check.lexed(names.toString()).slots(), 32);
        check.due("the 33rd", Check.lexed(names + "w").slots(), 0);
    }

    private static void order(Check check) {
        TinyFront x = Check.lexed("b a b c a A");
        int[] want = {0, 1, 0, 2, 1, 3};
        for (int i = 0; i < want.length; i++) {
            check.due("slot of name " + i, x.token(i, 3), want[i]);
        }
        x.clear();
        Check.feed(x, "c b");
        x.lex();
        check.due("slot of c in another text", x.token(0, 3), 0);
        check.due("slots() of another text", x.slots(), 2);
    }

    private static void withoutTokens(Check check) {
        TinyFront x = Check.fed("a b");
        check.due("before lex()", x.slots(), 0);
        x.lex();
        check.due("behind lex()", x.slots(), 2);
        x.parse();
        check.due("behind a parse() with a WRONG token", x.slots(), 2);
        x.feed(' ', 1);
        check.due("behind feed", x.slots(), 0);
        x.lex();
        check.due("behind lex() again", x.slots(), 2);
        x.feed('?', 1);
        x.lex();
        check.due("behind an ERROR", x.slots(), 0);
        x.clear();
        check.due("behind clear()", x.slots(), 0);
    }
}
