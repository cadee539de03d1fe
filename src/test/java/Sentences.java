import java.io.IOException;
import java.nio.file.Files;
import java.nio.file.Path;

/** Answers that are due by a sentence of the document: its words stand before what they ask. */
final class Sentences {
    private static final Path DOCUMENT = Path.of("../shared/DOC.md");

    private final Check check;
    private final String document;
    private String words = "";

    Sentences(String subject) throws IOException {
        check = new Check(subject);
        boolean there = Files.isReadable(DOCUMENT);
        document = there ? Files.readString(DOCUMENT).replaceAll("\\s+", " ") : "";
    }

    /** What comes is due by these words. */
    void says(String theseWords) {
        words = theseWords;
        // Told, but not counted: it is no fault of the program when the document is worded anew.
        if (!document.isEmpty() && !document.contains(words)) {
            System.out.println("the document does not say \"" + words + "\" any more");
        }
    }

    void due(String call, long got, long want) {
        check.due("\"" + words + "\": " + call, got, want);
    }

    void lex(String text, int want) {
        due("lex() of [" + text + "]", Check.fed(text).lex(), want);
    }

    void parse(String text, int want) {
        due("parse() of [" + text + "]", Check.lexed(text).parse(), want);
    }

    void kinds(String text, int... want) {
        TinyFront x = Check.fed(text);
        due("lex() of [" + text + "]", x.lex(), want.length);
        for (int i = 0; i < want.length; i++) {
            due("token(" + i + ", 0) of [" + text + "]", x.token(i, 0), want[i]);
        }
        due("THE END of [" + text + "]", x.token(want.length, 0), 0);
    }

    void reduces(String text, int... want) {
        TinyFront x = Check.parsed(text);
        due("reduced(-1) of [" + text + "]", x.reduced(-1), want.length);
        for (int i = 0; i < want.length; i++) {
            due("reduced(" + i + ") of [" + text + "]", x.reduced(i), want[i]);
        }
        due("reduced(" + want.length + ") of [" + text + "]", x.reduced(want.length), -1);
    }

    /** Both engines come to the end and print this. */
    void prints(String text, int... want) {
        TinyFront x = Check.compiled(text);
        due("runTree(100000) of [" + text + "]", x.runTree(100000), 0);
        printed(x, "by the tree, [" + text + "]", want);
        due("runCode(100000) of [" + text + "]", x.runCode(100000), 0);
        printed(x, "by the code, [" + text + "]", want);
    }

    private void printed(TinyFront x, String run, int... want) {
        due("ran(2) " + run, x.ran(2), want.length);
        for (int i = 0; i < want.length; i++) {
            due("out(" + i + ") " + run, x.out(i), want[i]);
        }
    }

    /** Both engines are DIVIDED when so many values are printed. */
    void divides(String text, int values) {
        TinyFront x = Check.compiled(text);
        due("runTree(100000) of [" + text + "]", x.runTree(100000), 2);
        due("ran(0) by the tree, [" + text + "]", x.ran(0), 2);
        due("ran(2) by the tree, [" + text + "]", x.ran(2), values);
        due("runCode(100000) of [" + text + "]", x.runCode(100000), 2);
        due("ran(0) by the code, [" + text + "]", x.ran(0), 2);
        due("ran(2) by the code, [" + text + "]", x.ran(2), values);
    }

    /** The fuel with which the tree just comes to its end (0), or is DIVIDED (2). */
    void treeNeeds(String text, int how, int need) {
        TinyFront x = Check.compiled(text);
        int[] enough = {need, need + 1, 100000};
        for (int fuel : enough) {
            String run = "runTree(" + fuel + ") of [" + text + "]";
            due(run, x.runTree(fuel), how);
            due("ran(1) of " + run, x.ran(1), need);
        }
        for (int fuel = 0; fuel < need && fuel < 40; fuel++) {
            String run = "runTree(" + fuel + ") of [" + text + "]";
            due(run, x.runTree(fuel), 1);
            due("ran(1) of " + run, x.ran(1), fuel);
        }
    }

    /** Likewise by the code. */
    void codeNeeds(String text, int how, int need) {
        TinyFront x = Check.compiled(text);
        int[] enough = {need, need + 1, 100000};
        for (int fuel : enough) {
            String run = "runCode(" + fuel + ") of [" + text + "]";
            due(run, x.runCode(fuel), how);
            due("ran(1) of " + run, x.ran(1), need);
        }
        for (int fuel = 0; fuel < need && fuel < 40; fuel++) {
            String run = "runCode(" + fuel + ") of [" + text + "]";
            due(run, x.runCode(fuel), 1);
            due("ran(1) of " + run, x.ran(1), fuel);
        }
    }

    void end() {
        check.end();
    }
}
