/** Whole runs by chance, all of whose answers have to be those of the model. */
public final class ModelTest {
    private static final int MOST_CALLS = 512;
    private static final Check CHECK = new Check("the model");

    private final String text;
    private final Model model;
    private final int[] inputs = new int[32];
    private TinyFront x = null;
    private int calls = 0;

    private ModelTest(String itsText, Programs programs) {
        text = itsText;
        model = new Model(itsText);
        for (int i = 0; i < 6; i++) {
            inputs[i] = programs.below(3) == 0 ? programs.below(9) - 4 : 0;
        }
    }

    public static void main(String[] args) {
        int ran = 0;
        int wrong = 0;
        for (int seed = 0; seed < 6000; seed++) {
            Programs programs = new Programs(seed);
            int way = seed % 6;
            String text = way < 3 ? programs.sound()
                : way < 5 ? programs.faulty() : programs.heap();
            ModelTest test = new ModelTest(text, programs);
            test.compare(programs);
            ran += test.model.parseAnswer >= 0 ? 1 : 0;
            wrong += test.model.parseAnswer < 0 ? 1 : 0;
        }
        System.out.println(ran + " sound texts, " + wrong + " faulty ones");
        highTexts();
        CHECK.due("enough sound texts", ran > 2000 ? 1 : 0, 1);
        CHECK.due("enough faulty texts", wrong > 1000 ? 1 : 0, 1);
        CHECK.end();
    }

    private static void highTexts() {
        int highest = 0;
        int higher = 0;
        for (int seed = 0; seed < 400; seed++) {
            Programs programs = new Programs(10000 + seed);
            ModelTest test = new ModelTest(programs.high(), programs);
            test.compare(programs);
            if (test.model.parseAnswer >= 0) {
                highest = Math.max(highest, test.model.nodes.get(0).height);
            }
            higher += test.model.parseAnswer == -2 ? 1 : 0;
        }
        System.out.println("trees up to " + highest + " high, " + higher + " that are higher");
        CHECK.due("high trees", highest > 190 ? 1 : 0, 1);
        CHECK.due("trees that are too high", higher > 0 ? 1 : 0, 1);
    }

    private void due(String call, int got, int want) {
        CHECK.due(call + " of [" + text + "]", got, want);
    }

    /** An object is good for 512 calls: then another one is brought to where this one was. */
    private TinyFront object(int more) {
        calls += more;
        if (x == null || calls > MOST_CALLS) {
            x = new TinyFront();
            for (int slot = 0; slot < 6; slot++) {
                x.input(slot, inputs[slot]);
            }
            Check.feed(x, text);
            due("lex()", x.lex(), model.lexAnswer);
            due("parse()", x.parse(), model.parseAnswer);
            due("compile()", x.compile(), model.parseAnswer < 0 ? -3 : model.code.size());
            calls = 6 + (text.length() + 7) / 8 + 3 + more;
        }
        return x;
    }

    private void compare(Programs programs) {
        compareTokens();
        compareReduced();
        compareNodes();
        compareCode();
        if (model.parseAnswer < 0) {
            due("runTree(50)", object(2).runTree(50), -3);
            due("runCode(50)", x.runCode(50), -3);
            return;
        }
        int[] amounts = {0, 1, 2 + programs.below(10), 10 + programs.below(90), 3000, 100000};
        for (int fuel : amounts) {
            TinyFront runner = object(100);
            int how = runner.runTree(fuel);
            compareRun("runTree(" + fuel + ")", how, model.runTree(fuel, inputs));
            runner = object(100);
            how = runner.runCode(fuel);
            compareRun("runCode(" + fuel + ")", how, model.runCode(fuel, inputs));
        }
    }

    private void compareTokens() {
        due("slots()", object(1).slots(), model.slots);
        for (int i = 0; i < model.tokens.size(); i++) {
            Model.Token want = model.tokens.get(i);
            object(4);
            due("token(" + i + ", 0)", x.token(i, 0), want.kind);
            due("token(" + i + ", 1)", x.token(i, 1), want.begin);
            due("token(" + i + ", 2)", x.token(i, 2), want.size);
            due("token(" + i + ", 3)", x.token(i, 3), want.worth);
        }
        due("token behind all", object(1).token(model.tokens.size(), 0), -1);
    }

    private void compareReduced() {
        due("reduced(-1)", object(1).reduced(-1), model.reduced.size());
        for (int i = 0; i < model.reduced.size(); i++) {
            due("reduced(" + i + ")", object(1).reduced(i), model.reduced.get(i));
        }
        due("reduced behind all", object(1).reduced(model.reduced.size()), -1);
    }

    private void compareNodes() {
        for (int i = 0; i < model.nodes.size(); i++) {
            Model.Node want = model.nodes.get(i);
            int parts = want.parts.size();
            object(6);
            due("node(" + i + ", 0)", x.node(i, 0), want.kind);
            due("node(" + i + ", 1)", x.node(i, 1), want.token);
            due("node(" + i + ", 2)", x.node(i, 2), parts);
            due("node(" + i + ", 3)", x.node(i, 3), want.height);
            int first = parts == 0 ? -1 : want.parts.get(0).number;
            int last = parts == 0 ? -1 : want.parts.get(parts - 1).number;
            due("node(" + i + ", 4)", x.node(i, 4), first);
            due("node(" + i + ", 5)", x.node(i, 5), last);
        }
        due("node behind all", object(1).node(model.nodes.size(), 0), -1);
    }

    private void compareCode() {
        for (int i = 0; i < model.code.size(); i++) {
            due("code(" + i + ", 0)", object(2).code(i, 0), model.code.get(i)[0]);
            due("code(" + i + ", 1)", x.code(i, 1), model.code.get(i)[1]);
        }
        due("code behind all", object(1).code(model.code.size(), 0), -1);
    }

    /** The hundred calls for a run were reserved before it. */
    private void compareRun(String run, int how, Model.Outcome want) {
        due(run, how, want.how);
        due(run + ", ran(0)", x.ran(0), want.how);
        due(run + ", ran(1)", x.ran(1), want.taken);
        due(run + ", ran(2)", x.ran(2), want.printed.size());
        due(run + ", ran(3)", x.ran(3), want.last);
        int count = want.printed.size();
        int[] places = {0, 1, 2, 3, 500, 998, 999, 1000, 1001, count - 1, count};
        for (int i : places) {
            boolean there = i >= 0 && i < count && i < 1000;
            due(run + ", out(" + i + ")", x.out(i), there ? want.printed.get(i) : 0);
        }
        for (int slot = 0; slot < 32; slot++) {
            due(run + ", value(" + slot + ")", x.value(slot), want.values[slot]);
        }
    }
}
