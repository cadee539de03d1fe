import java.util.ArrayList;
import java.util.List;
import java.util.Random;

/** Calls by chance in any order and any state: what is known, and what is forgotten when. */
public final class SequenceTest {
    private static final int MOST_CALLS = 512;
    // The longest piece of text is fed by six calls.
    private static final int MOST_CALLS_A_STEP = 6;
    private static final Check CHECK = new Check("calls in any order");
    private static final String[] SOUND = {
        "x=1;", "print x;", "a=a+1;", "while(1){a=a+1;print a;}", "while(a<9){a=a+2;}", "{}", " ",
        "while(a){if(x){break;}else{a=a-1;next;}}", "print 1/a;", "# no\n", "x=y&&z;", "y=7||x;",
        "print -x;", "if(a<x){print 5%x;}", "{{}x=x-1;}",
    };
    private static final String[] ODD = {
        "break;", "next;", "{", "}", "x", "=", "else", "while(1){", "?", "\u00ff", "#", "|", "7",
    };
    private static final int[] EDGES = {
        0, 1, 2, 3, 4, 5, 6, 31, 32, 33, 100, 999, 1000, 1001, 100000, 100001,
        -1, -2, -10, Integer.MAX_VALUE, Integer.MIN_VALUE,
    };

    private final Random random;
    private final TinyFront x = new TinyFront();

    // What the document says of the object.
    private String text = "";
    private Model model = null;
    private boolean treeKnown = false;
    private boolean codeKnown = false;
    private List<Integer> reduced = new ArrayList<>();
    private final int[] inputs = new int[32];
    private Model.Outcome outcome = null;
    private int calls = 0;
    private final StringBuilder story = new StringBuilder();

    private SequenceTest(long seed) {
        random = new Random(seed);
    }

    public static void main(String[] args) {
        for (int seed = 0; seed < 1500; seed++) {
            SequenceTest test = new SequenceTest(seed);
            while (test.calls <= MOST_CALLS - MOST_CALLS_A_STEP) {
                test.step();
            }
        }
        CHECK.end();
    }

    private void due(String call, int got, int want) {
        calls++;
        if (story.length() > 2000) {
            story.delete(0, 1000);
        }
        story.append(call).append(' ').append(got).append("; ");
        CHECK.due(got == want ? call : story.toString(), got, want);
    }

    private int any() {
        return random.nextInt(3) == 0 ? EDGES[random.nextInt(EDGES.length)] : random.nextInt(40);
    }

    private void step() {
        switch (random.nextInt(24)) {
            case 0: case 1: case 2: feedPiece(); break;
            case 3: feedAnything(); break;
            case 4: if (random.nextInt(3) == 0) { clear(); } break;
            case 5: case 6: lex(); break;
            case 7: case 8: case 9: parse(); break;
            case 10: case 11: compile(); break;
            case 12: input(any()); break;
            case 13: case 14: runTree(fuel()); break;
            case 15: case 16: runCode(fuel()); break;
            case 17: ran(random.nextInt(6) - 1); break;
            case 18: out(any()); value(any()); break;
            case 19: reduced(any()); break;
            case 20: node(any(), random.nextInt(8) - 1); break;
            case 21: token(any(), random.nextInt(6) - 1); break;
            case 22: code(any(), random.nextInt(4) - 1); break;
            default: due("slots()", x.slots(), model == null ? 0 : model.slots);
        }
    }

    private int fuel() {
        int way = random.nextInt(5);
        return way == 0 ? any() : way == 1 ? random.nextInt(100001) : random.nextInt(60);
    }

    private void feedPiece() {
        boolean odd = random.nextInt(14) == 0;
        String piece = odd ? ODD[random.nextInt(ODD.length)] : SOUND[random.nextInt(SOUND.length)];
        for (int from = 0; from < piece.length(); from += 8) {
            feed(piece.substring(from, Math.min(piece.length(), from + 8)));
        }
    }

    private void feed(String piece) {
        String call = "feed('" + piece + "')";
        int got = x.feed(Check.pack(piece) | random.nextLong() << 8 * (piece.length() - 1) << 8,
            piece.length());
        if (text.length() + piece.length() > 4000) {
            due(call, got, -2);
            return;
        }
        text += piece;
        forgetText();
        due(call, got, text.length());
    }

    private void feedAnything() {
        int n = EDGES[random.nextInt(EDGES.length)];
        if (n < 1 || n > 8) {
            due("feed(.., " + n + ")", x.feed(random.nextLong(), n), -1);
        }
    }

    private void forgetText() {
        model = null;
        treeKnown = false;
        codeKnown = false;
    }

    private void clear() {
        due("clear()", x.clear(), text.length());
        text = "";
        forgetText();
        java.util.Arrays.fill(inputs, 0);
        outcome = null;
    }

    private void lex() {
        Model made = new Model(text);
        due("lex()", x.lex(), made.lexAnswer);
        forgetText();
        outcome = null;
        model = made.lexAnswer < 0 ? null : made;
    }

    private void parse() {
        due("parse()", x.parse(), model == null ? -3 : model.parseAnswer);
        if (model != null) {
            reduced = model.reduced;
            treeKnown = model.parseAnswer >= 0;
            codeKnown = false;
        }
    }

    private void compile() {
        due("compile()", x.compile(), treeKnown ? model.code.size() : -3);
        codeKnown = treeKnown;
    }

    private void input(int slot) {
        int v = random.nextInt(4) == 0 ? random.nextInt() : random.nextInt(5) - 2;
        boolean there = slot >= 0 && slot < 32;
        due("input(" + slot + ", " + v + ")", x.input(slot, v), there ? inputs[slot] : 0);
        if (there) {
            inputs[slot] = v;
        }
    }

    private void runTree(int fuel) {
        boolean right = fuel >= 0 && fuel <= 100000;
        int got = x.runTree(fuel);
        if (right && treeKnown) {
            outcome = model.runTree(fuel, inputs);
        }
        due("runTree(" + fuel + ")", got, !right ? -1 : treeKnown ? outcome.how : -3);
    }

    private void runCode(int fuel) {
        boolean right = fuel >= 0 && fuel <= 100000;
        int got = x.runCode(fuel);
        if (right && codeKnown) {
            outcome = model.runCode(fuel, inputs);
        }
        due("runCode(" + fuel + ")", got, !right ? -1 : codeKnown ? outcome.how : -3);
    }

    private void ran(int what) {
        int want = -1;
        if (outcome != null && what >= 0 && what < 4) {
            int[] all = {outcome.how, outcome.taken, outcome.printed.size(), outcome.last};
            want = all[what];
        }
        due("ran(" + what + ")", x.ran(what), want);
    }

    private void out(int i) {
        boolean there = outcome != null && i >= 0 && i < outcome.printed.size() && i < 1000;
        due("out(" + i + ")", x.out(i), there ? outcome.printed.get(i) : 0);
    }

    private void value(int slot) {
        boolean there = outcome != null && slot >= 0 && slot < 32;
        due("value(" + slot + ")", x.value(slot), there ? outcome.values[slot] : 0);
    }

    private void reduced(int i) {
        boolean there = i >= 0 && i < reduced.size();
        int want = i == -1 ? reduced.size() : there ? reduced.get(i) : -1;
        due("reduced(" + i + ")", x.reduced(i), want);
    }

    private void node(int i, int what) {
        int want = -1;
        if (treeKnown && i >= 0 && i < model.nodes.size() && what >= 0 && what < 6) {
            Model.Node node = model.nodes.get(i);
            int parts = node.parts.size();
            int first = parts == 0 ? -1 : node.parts.get(0).number;
            int last = parts == 0 ? -1 : node.parts.get(parts - 1).number;
            int[] all = {node.kind, node.token, parts, node.height, first, last};
            want = all[what];
        }
        due("node(" + i + ", " + what + ")", x.node(i, what), want);
    }

    private void token(int i, int what) {
        int want = -1;
        if (model != null && i >= 0 && i < model.tokens.size() && what >= 0 && what < 4) {
            Model.Token token = model.tokens.get(i);
            int[] all = {token.kind, token.begin, token.size, token.worth};
            want = all[what];
        }
        due("token(" + i + ", " + what + ")", x.token(i, what), want);
    }

    private void code(int i, int what) {
        int want = -1;
        if (codeKnown && i >= 0 && i < model.code.size() && what >= 0 && what < 2) {
            want = model.code.get(i)[what];
        }
        due("code(" + i + ", " + what + ")", x.code(i, what), want);
    }
}
