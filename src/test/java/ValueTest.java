/** Promise 17: value. */
public final class ValueTest {
    public static void main(String[] args) {
        Check check = new Check("promise 17, value");
        allSlots(check);
        whereItEnded(check);
        inputsWithoutNames(check);
        noneSuch(check);
        check.end();
    }

    private static void allSlots(Check check) {
        StringBuilder text = new StringBuilder();
        for (int i = 0; i < 32; i++) {
            text.append("v").append(i).append("=").append(i * i).append("-v31;");
        }
        TinyFront x = Check.compiled(text.toString());
        x.input(1, 1000);
        for (int engine = 0; engine < 2; engine++) {
            int how = engine == 0 ? x.runTree(1000) : x.runCode(1000);
            check.due("a run", how, 0);
            // v31 is the second name that comes.
            check.due("value(0)", x.value(0), -1000);
            check.due("value(1)", x.value(1), 961 - 1000);
            for (int slot = 2; slot < 32; slot++) {
                int i = slot - 1;
                check.due("value(" + slot + ")", x.value(slot), i * i - 1000);
            }
        }
    }

    private static void whereItEnded(Check check) {
        TinyFront x = Check.compiled("a=1;a=2;a=3/b;a=4;");
        x.input(0, 9);
        int[] byTree = {9, 9, 1, 1, 2, 2, 2, 2, 2};
        for (int fuel = 0; fuel < byTree.length; fuel++) {
            x.runTree(fuel);
            check.due("value(0) by the tree with " + fuel, x.value(0), byTree[fuel]);
        }
        int[] byCode = {9, 9, 1, 1, 2, 2, 2, 2, 2};
        for (int fuel = 0; fuel < byCode.length; fuel++) {
            x.runCode(fuel);
            check.due("value(0) by the code with " + fuel, x.value(0), byCode[fuel]);
        }
        x.input(1, 1);
        x.runTree(100);
        check.due("value(0) at the end", x.value(0), 4);
        check.due("value(1) at the end", x.value(1), 1);
        x.input(0, 77);
        x.feed(' ', 1);
        check.due("value(0) stays", x.value(0), 4);
    }

    private static void inputsWithoutNames(Check check) {
        TinyFront x = Check.compiled("a=5;");
        x.input(31, 310);
        x.runTree(9);
        check.due("value(31) by the tree", x.value(31), 310);
        check.due("value(30) by the tree", x.value(30), 0);
        x.runCode(9);
        check.due("value(31) by the code", x.value(31), 310);
        check.due("value(0) by the code", x.value(0), 5);
    }

    private static void noneSuch(Check check) {
        TinyFront x = Check.parsed("a=5;");
        x.input(0, 3);
        check.due("value(0) without a run", x.value(0), 0);
        x.runTree(9);
        int[] wrong = {-1, 32, 33, 1000, Integer.MAX_VALUE, Integer.MIN_VALUE};
        for (int slot : wrong) {
            check.due("value(" + slot + ")", x.value(slot), 0);
        }
        check.due("value(0)", x.value(0), 5);
        x.lex();
        check.due("value(0) behind lex()", x.value(0), 0);
        x.parse();
        x.runTree(9);
        x.clear();
        check.due("value(0) behind clear()", x.value(0), 0);
    }
}
