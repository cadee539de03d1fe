import java.util.ArrayList;
import java.util.Arrays;
import java.util.HashMap;
import java.util.LinkedHashMap;
import java.util.List;
import java.util.Map;
import java.util.Set;
import java.util.TreeSet;
import java.util.regex.Matcher;
import java.util.regex.Pattern;

/**
 * The document written a second time, as plainly as the Java library allows: tokens by a pattern,
 * sets of items as sets, and a tree of objects that is run by methods that call themselves.
 */
final class Model {
    static final class Token {
        int kind;
        int begin;
        int size;
        int worth;
    }

    static final class Node {
        int kind;
        int token;
        int number;
        int height = 1;
        final List<Node> parts = new ArrayList<>();
    }

    static final class Outcome {
        int how;
        int taken;
        int last = -1;
        final List<Integer> printed = new ArrayList<>();
        int[] values;
    }

    private static final List<String> KINDS = List.of(
        "END", "NAME", "NUMBER", "print", "if", "else", "while", "break", "next", "||", "&&", "==",
        "<", "+", "-", "*", "/", "%", "!", "=", ";", "(", ")", "{", "}");

    private static final String[] RULES = {
        "P L", "L", "L L S", "S NAME = E ;", "S print E ;", "S if ( E ) B",
        "S if ( E ) B else B", "S while ( E ) B", "S break ;", "S next ;", "S B", "B { L }",
        "E E || A", "E A", "A A && R", "A R", "R R == T", "R R < T", "R T", "T T + F", "T T - F",
        "T F", "F F * U", "F F / U", "F F % U", "F U", "U - U", "U ! U", "U W", "W NAME",
        "W NUMBER", "W ( E )",
    };

    private static final List<String[]> ROWS = new ArrayList<>();
    private static final Map<String, Set<String>> FIRST = new HashMap<>();
    private static final Map<String, Set<String>> FOLLOW = new HashMap<>();
    private static final Map<Set<Integer>, Map<String, Set<Integer>>> MOVES = new HashMap<>();

    static {
        for (String rule : RULES) {
            ROWS.add(rule.split(" "));
        }
        findFirst();
        findFollow();
    }

    final List<Token> tokens = new ArrayList<>();
    int lexAnswer;
    int slots;
    final List<Integer> reduced = new ArrayList<>();
    int parseAnswer;
    final List<Node> nodes = new ArrayList<>();
    final List<int[]> code = new ArrayList<>();

    Model(String text) {
        lexAnswer = lex(text);
        parseAnswer = lexAnswer < 0 ? -3 : parse();
        if (parseAnswer >= 0) {
            emit(nodes.get(0), null);
            word(16, 0);
        }
    }

    // ==== tokens

    private static final Pattern TOKEN = Pattern.compile(
        "([\\t\\n\\r ]|#[^\\n]*)|([A-Za-z_][A-Za-z_0-9]*)|([0-9]+)|(\\|\\||&&|==|[<+\\-*/%!=;(){}])",
        Pattern.DOTALL);

    private int lex(String text) {
        Map<String, Integer> names = new LinkedHashMap<>();
        Matcher matcher = TOKEN.matcher(text);
        int at = 0;
        while (at < text.length()) {
            if (!matcher.region(at, text.length()).lookingAt()) {
                return fail(at);
            }
            String found = matcher.group();
            if (matcher.group(1) == null) {
                Token token = new Token();
                token.begin = at;
                token.size = found.length();
                if (matcher.group(3) != null) {
                    token.kind = 2;
                    token.worth = new java.math.BigInteger(found).intValue();
                } else if (KINDS.indexOf(found) > 2) {
                    token.kind = KINDS.indexOf(found);
                } else {
                    token.kind = 1;
                    names.putIfAbsent(found, names.size());
                    token.worth = names.get(found);
                    if (found.length() > 16 || token.worth >= 32) {
                        return fail(at);
                    }
                }
                tokens.add(token);
            }
            at += found.length();
        }
        Token end = new Token();
        end.begin = text.length();
        tokens.add(end);
        slots = names.size();
        return tokens.size() - 1;
    }

    private int fail(int at) {
        tokens.clear();
        slots = 0;
        return -10 - at;
    }

    // ==== the parser

    private static boolean isLetter(String symbol) {
        return symbol.length() == 1 && Character.isUpperCase(symbol.charAt(0));
    }

    private static Set<String> firstOfRest(String[] row, int from) {
        Set<String> all = new TreeSet<>();
        for (int i = from; i < row.length; i++) {
            if (!isLetter(row[i])) {
                all.add(row[i]);
                return all;
            }
            Set<String> these = FIRST.getOrDefault(row[i], Set.of());
            all.addAll(these);
            all.remove("");
            if (!these.contains("")) {
                return all;
            }
        }
        all.add("");
        return all;
    }

    private static void findFirst() {
        boolean more = true;
        while (more) {
            more = false;
            for (String[] row : ROWS) {
                Set<String> these = FIRST.computeIfAbsent(row[0], k -> new TreeSet<>());
                more |= these.addAll(firstOfRest(row, 1));
            }
        }
    }

    private static void findFollow() {
        FOLLOW.put("P", new TreeSet<>(Set.of("END")));
        boolean more = true;
        while (more) {
            more = false;
            for (String[] row : ROWS) {
                for (int i = 1; i < row.length; i++) {
                    if (isLetter(row[i])) {
                        Set<String> rest = firstOfRest(row, i + 1);
                        if (rest.remove("")) {
                            rest.addAll(FOLLOW.getOrDefault(row[0], Set.of()));
                        }
                        more |= FOLLOW.computeIfAbsent(row[i], k -> new TreeSet<>()).addAll(rest);
                    }
                }
            }
        }
    }

    // An item: 100 times the rule, and how many of its row stand before the point.

    private static Set<Integer> closed(Set<Integer> items) {
        Set<Integer> all = new TreeSet<>(items);
        List<Integer> open = new ArrayList<>(items);
        while (!open.isEmpty()) {
            String symbol = behindPoint(open.remove(open.size() - 1));
            for (int rule = 0; rule < ROWS.size(); rule++) {
                if (ROWS.get(rule)[0].equals(symbol) && all.add(rule * 100)) {
                    open.add(rule * 100);
                }
            }
        }
        return all;
    }

    private static String behindPoint(int item) {
        String[] row = ROWS.get(item / 100);
        int at = item % 100 + 1;
        return at < row.length ? row[at] : "";
    }

    private static Set<Integer> move(Set<Integer> set, String symbol) {
        return MOVES.computeIfAbsent(set, k -> new HashMap<>()).computeIfAbsent(symbol, k -> {
            Set<Integer> moved = new TreeSet<>();
            for (int item : set) {
                if (behindPoint(item).equals(symbol)) {
                    moved.add(item + 1);
                }
            }
            return closed(moved);
        });
    }

    private int parse() {
        List<Set<Integer>> sets = new ArrayList<>();
        List<Object> values = new ArrayList<>();
        sets.add(closed(Set.of(0)));
        int at = 0;
        while (true) {
            Set<Integer> top = sets.get(sets.size() - 1);
            String kind = KINDS.get(tokens.get(at).kind);
            Set<Integer> on = move(top, kind);
            if (!on.isEmpty()) {
                sets.add(on);
                values.add(at);
                at++;
                continue;
            }
            int rule = ruleToReduce(top, kind);
            if (rule == 0) {
                Node whole = (Node) values.get(0);
                whole.token = 0;
                return finish(whole);
            }
            if (rule < 0) {
                return -10 - at;
            }
            reduced.add(rule);
            int length = ROWS.get(rule).length - 1;
            List<Object> row = values.subList(values.size() - length, values.size());
            Object value = build(rule, new ArrayList<>(row));
            row.clear();
            sets.subList(sets.size() - length, sets.size()).clear();
            sets.add(move(sets.get(sets.size() - 1), ROWS.get(rule)[0]));
            values.add(value);
        }
    }

    private static int ruleToReduce(Set<Integer> set, String kind) {
        int found = -1;
        for (int item : set) {
            String letter = ROWS.get(item / 100)[0];
            if (behindPoint(item).isEmpty() && FOLLOW.get(letter).contains(kind)) {
                if (found >= 0) {
                    throw new IllegalStateException("two rules to reduce");
                }
                found = item / 100;
            }
        }
        return found;
    }

    private static Object build(int rule, List<Object> row) {
        switch (rule) {
            case 1: return node(0, 0);
            case 2: {
                Node list = (Node) row.get(0);
                list.parts.add((Node) row.get(1));
                return list;
            }
            case 3: return node(1, row.get(0), row.get(2));
            case 4: return node(2, row.get(0), row.get(1));
            case 5: return node(3, row.get(0), row.get(2), row.get(4));
            case 6: return node(3, row.get(0), row.get(2), row.get(4), row.get(6));
            case 7: return node(4, row.get(0), row.get(2), row.get(4));
            case 8: return node(5, row.get(0));
            case 9: return node(6, row.get(0));
            case 11: {
                Node list = (Node) row.get(1);
                list.token = (Integer) row.get(0);
                return list;
            }
            case 12: return node(7, row.get(1), row.get(0), row.get(2));
            case 14: return node(8, row.get(1), row.get(0), row.get(2));
            case 16: return node(9, row.get(1), row.get(0), row.get(2));
            case 17: return node(10, row.get(1), row.get(0), row.get(2));
            case 19: return node(11, row.get(1), row.get(0), row.get(2));
            case 20: return node(12, row.get(1), row.get(0), row.get(2));
            case 22: return node(13, row.get(1), row.get(0), row.get(2));
            case 23: return node(14, row.get(1), row.get(0), row.get(2));
            case 24: return node(15, row.get(1), row.get(0), row.get(2));
            case 26: return node(16, row.get(0), row.get(1));
            case 27: return node(17, row.get(0), row.get(1));
            case 29: return node(18, row.get(0));
            case 30: return node(19, row.get(0));
            case 31: return row.get(1);
            default: return row.get(0);
        }
    }

    private static Node node(int kind, Object token, Object... parts) {
        Node made = new Node();
        made.kind = kind;
        made.token = (Integer) token;
        for (Object part : parts) {
            made.parts.add((Node) part);
        }
        return made;
    }

    private int finish(Node whole) {
        number(whole);
        if (whole.height > 200) {
            nodes.clear();
            return -2;
        }
        int stray = firstStray(whole, false);
        if (stray >= 0) {
            nodes.clear();
            return -10000 - stray;
        }
        return nodes.size();
    }

    private void number(Node node) {
        node.number = nodes.size();
        nodes.add(node);
        for (Node part : node.parts) {
            number(part);
            node.height = Math.max(node.height, part.height + 1);
        }
    }

    private static int firstStray(Node node, boolean inLoop) {
        if (node.kind == 5 || node.kind == 6) {
            return inLoop ? -1 : node.token;
        }
        for (Node part : node.parts) {
            int found = firstStray(part, inLoop || node.kind == 4);
            if (found >= 0) {
                return found;
            }
        }
        return -1;
    }

    // ==== by the tree

    @SuppressWarnings("serial")
    private static final class Stop extends RuntimeException {
        final int how;

        Stop(int itsHow) {
            super(null, null, false, false);
            how = itsHow;
        }
    }

    private enum Flow { ON, BREAK, NEXT }

    private Outcome outcome;
    private int fuel;

    Outcome runTree(int itsFuel, int[] inputs) {
        begin(itsFuel, inputs);
        try {
            statement(nodes.get(0));
        } catch (Stop stop) {
            outcome.how = stop.how;
        }
        return outcome;
    }

    private void begin(int itsFuel, int[] inputs) {
        outcome = new Outcome();
        outcome.values = Arrays.copyOf(inputs, 32);
        fuel = itsFuel;
    }

    private void take(int which) {
        if (outcome.taken == fuel) {
            throw new Stop(1);
        }
        outcome.taken++;
        outcome.last = which;
    }

    private Flow statement(Node node) {
        if (node.kind == 0) {
            for (Node part : node.parts) {
                Flow flow = statement(part);
                if (flow != Flow.ON) {
                    return flow;
                }
            }
            return Flow.ON;
        }
        take(node.number);
        switch (node.kind) {
            case 1:
                outcome.values[tokens.get(node.token).worth] = exp(node.parts.get(0));
                return Flow.ON;
            case 2:
                outcome.printed.add(exp(node.parts.get(0)));
                return Flow.ON;
            case 3:
                if (exp(node.parts.get(0)) != 0) {
                    return statement(node.parts.get(1));
                }
                return node.parts.size() == 3 ? statement(node.parts.get(2)) : Flow.ON;
            case 4: {
                while (true) {
                    take(node.number);
                    if (exp(node.parts.get(0)) == 0) {
                        return Flow.ON;
                    }
                    if (statement(node.parts.get(1)) == Flow.BREAK) {
                        return Flow.ON;
                    }
                }
            }
            case 5: return Flow.BREAK;
            default: return Flow.NEXT;
        }
    }

    private int exp(Node node) {
        take(node.number);
        int worth = tokens.get(node.token).worth;
        switch (node.kind) {
            case 18: return outcome.values[worth];
            case 19: return worth;
            case 16: return -exp(node.parts.get(0));
            case 17: return exp(node.parts.get(0)) == 0 ? 1 : 0;
            case 7: return exp(node.parts.get(0)) != 0 || exp(node.parts.get(1)) != 0 ? 1 : 0;
            case 8: return exp(node.parts.get(0)) != 0 && exp(node.parts.get(1)) != 0 ? 1 : 0;
            default: {
                int left = exp(node.parts.get(0));
                return two(node.kind, left, exp(node.parts.get(1)));
            }
        }
    }

    private static int two(int kind, int left, int right) {
        switch (kind) {
            case 9: return left == right ? 1 : 0;
            case 10: return left < right ? 1 : 0;
            case 11: return (int) ((long) left + right);
            case 12: return (int) ((long) left - right);
            case 13: return (int) ((long) left * right);
            default:
                if (right == 0) {
                    throw new Stop(2);
                }
                return (int) (kind == 14 ? (long) left / right : (long) left % right);
        }
    }

    // ==== by the code

    private int word(int number, int operand) {
        code.add(new int[] {number, operand});
        return code.size() - 1;
    }

    private void aim(int word) {
        code.get(word)[1] = code.size();
    }

    /** The holes of a WHILE's BREAKs come into a list, behind its beginning. */
    private void emit(Node node, List<Integer> loop) {
        List<Node> parts = node.parts;
        int worth = tokens.get(node.token).worth;
        switch (node.kind) {
            case 0: parts.forEach(part -> emit(part, loop)); break;
            case 1: emit(parts.get(0), loop); word(2, worth); break;
            case 2: emit(parts.get(0), loop); word(15, 0); break;
            case 3: emitIf(parts, loop); break;
            case 4: emitWhile(parts); break;
            case 5: loop.add(word(13, 0)); break;
            case 6: word(13, loop.get(0)); break;
            case 7: emitOr(parts); break;
            case 8: emitAnd(parts); break;
            case 18: word(1, worth); break;
            case 19: word(0, worth); break;
            default:
                parts.forEach(part -> emit(part, loop));
                word(Map.of(9, 8, 10, 9, 11, 3, 12, 4, 13, 5, 14, 6, 15, 7, 16, 10, 17, 11)
                    .get(node.kind), 0);
        }
    }

    private void emitIf(List<Node> parts, List<Integer> loop) {
        emit(parts.get(0), loop);
        int unless = word(14, 0);
        emit(parts.get(1), loop);
        if (parts.size() == 3) {
            int jump = word(13, 0);
            aim(unless);
            emit(parts.get(2), loop);
            aim(jump);
        } else {
            aim(unless);
        }
    }

    private void emitWhile(List<Node> parts) {
        List<Integer> loop = new ArrayList<>();
        loop.add(code.size());
        emit(parts.get(0), loop);
        int unless = word(14, 0);
        emit(parts.get(1), loop);
        word(13, loop.get(0));
        aim(unless);
        loop.subList(1, loop.size()).forEach(this::aim);
    }

    private void emitAnd(List<Node> parts) {
        emit(parts.get(0), null);
        int unless = word(14, 0);
        emit(parts.get(1), null);
        word(12, 0);
        int jump = word(13, 0);
        aim(unless);
        word(0, 0);
        aim(jump);
    }

    private void emitOr(List<Node> parts) {
        emit(parts.get(0), null);
        int unless = word(14, 0);
        word(0, 1);
        int jump = word(13, 0);
        aim(unless);
        emit(parts.get(1), null);
        word(12, 0);
        aim(jump);
    }

    Outcome runCode(int itsFuel, int[] inputs) {
        begin(itsFuel, inputs);
        List<Integer> pile = new ArrayList<>();
        try {
            int at = 0;
            while (code.get(at)[0] != 16) {
                take(at);
                at = step(pile, at, code.get(at)[0], code.get(at)[1]);
            }
            take(at);
        } catch (Stop stop) {
            outcome.how = stop.how;
        }
        return outcome;
    }

    private int step(List<Integer> pile, int at, int word, int v) {
        if (word >= 3 && word <= 9) {
            int right = pop(pile);
            int left = pop(pile);
            pile.add(two(word <= 7 ? word + 8 : word + 1, left, right));
            return at + 1;
        }
        switch (word) {
            case 0: pile.add(v); return at + 1;
            case 1: pile.add(outcome.values[v]); return at + 1;
            case 2: outcome.values[v] = pop(pile); return at + 1;
            case 10: pile.add(-pop(pile)); return at + 1;
            case 11: pile.add(pop(pile) == 0 ? 1 : 0); return at + 1;
            case 12: pile.add(pop(pile) != 0 ? 1 : 0); return at + 1;
            case 13: return v;
            case 14: return pop(pile) != 0 ? at + 1 : v;
            default: outcome.printed.add(pop(pile)); return at + 1;
        }
    }

    private static int pop(List<Integer> pile) {
        return pile.remove(pile.size() - 1);
    }
}
