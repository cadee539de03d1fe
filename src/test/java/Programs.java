import java.util.ArrayList;
import java.util.List;
import java.util.Random;

/** Makes texts by chance, with a seed: sound, faulty or high ones, and heaps of tokens. */
final class Programs {
    private static final String[] BITS = {
        "a", "b", "x1", "_", "7", "0", "4294967295", "print", "if", "else", "while", "break",
        "next", "||", "&&", "==", "<", "+", "-", "*", "/", "%", "!", "=", ";", "(", ")", "{", "}",
    };
    private static final String[] ODD = {"|", "&", ">", "$", "\u00ff", "\u0000", "#", "\n", "\""};
    private static final String[] SIGNS = {"||", "&&", "==", "<", "+", "-", "*", "/", "%"};
    private static final String[] GAPS = {" ", " ", "\n", "\t", "\r", "# x=;\n", "#\n", "  "};

    private final Random random;
    private List<String> tokens = new ArrayList<>();

    Programs(long seed) {
        random = new Random(seed);
    }

    int below(int n) {
        return random.nextInt(n);
    }

    String sound() {
        tokens = new ArrayList<>();
        int statements = below(7);
        for (int i = 0; i < statements; i++) {
            statement(0, false);
        }
        return joined();
    }

    String faulty() {
        sound();
        int changes = 1 + below(2);
        for (int i = 0; i < changes; i++) {
            int at = below(tokens.size() + 1);
            boolean there = at < tokens.size();
            int way = below(3);
            if (there && way > 0) {
                tokens.remove(at);
            }
            if (way < 2) {
                tokens.add(at, BITS[below(BITS.length)]);
            }
        }
        return joined();
    }

    String heap() {
        tokens = new ArrayList<>();
        int count = below(14);
        for (int i = 0; i < count; i++) {
            tokens.add(below(60) == 0 ? ODD[below(ODD.length)] : BITS[below(BITS.length)]);
        }
        return joined();
    }

    /** A tree about as high as one may be, sometimes higher. */
    String high() {
        tokens = new ArrayList<>();
        int deep = below(60);
        int loops = highStatements(deep);
        add("print");
        highExp(below(240 - 2 * deep));
        add(";");
        if (loops > 0 && below(4) == 0) {
            add(below(2) == 0 ? "break" : "next", ";");
        }
        for (int i = 0; i < deep; i++) {
            add("}");
        }
        return joined();
    }

    private int highStatements(int deep) {
        int loops = 0;
        for (int i = 0; i < deep; i++) {
            int way = below(4);
            if (way == 0) {
                add("while", "(", "a", "<", String.valueOf(below(9)), ")", "{");
                add("a", "=", "a", "+", "1", ";");
                loops++;
            } else if (way == 1) {
                add("if", "(", name(), ")", "{", "print", name(), ";", "}", "else", "{");
            } else if (way == 2) {
                add("if", "(", "!", name(), ")", "{");
            } else {
                add("{");
            }
        }
        return loops;
    }

    private void highExp(int deep) {
        List<String> behind = new ArrayList<>();
        for (int i = 0; i < deep; i++) {
            int way = below(3);
            if (way == 0) {
                add(below(2) == 0 ? "-" : "!");
            } else if (way == 1) {
                add("(", name(), SIGNS[below(SIGNS.length)]);
                behind.addAll(0, List.of(")"));
            } else {
                add("(");
                String number = String.valueOf(below(4));
                behind.addAll(0, List.of(SIGNS[below(SIGNS.length)], number, ")"));
            }
        }
        add(name());
        tokens.addAll(behind);
    }

    private String joined() {
        StringBuilder text = new StringBuilder();
        boolean tight = below(3) == 0;
        for (String token : tokens) {
            boolean wordly = text.length() > 0 && isWordly(text.charAt(text.length() - 1));
            if (wordly && isWordly(token.charAt(0)) || !tight && below(3) == 0) {
                text.append(GAPS[below(GAPS.length)]);
            }
            text.append(token);
        }
        return text.toString();
    }

    private static boolean isWordly(char c) {
        return c == '_' || Character.isLetterOrDigit(c);
    }

    private void add(String... these) {
        tokens.addAll(List.of(these));
    }

    private void statement(int depth, boolean inLoop) {
        int way = below(depth < 4 ? 14 : 6);
        if (inLoop && below(6) == 0 || below(80) == 0) {
            add(below(2) == 0 ? "break" : "next", ";");
        } else if (way < 4) {
            add(name(), "=");
            exp(0);
            add(";");
        } else if (way < 6) {
            add("print");
            exp(0);
            add(";");
        } else if (way < 9) {
            add("if", "(");
            exp(1);
            add(")");
            block(depth, inLoop);
            if (below(2) == 0) {
                add("else");
                block(depth, inLoop);
            }
        } else if (way < 12) {
            add("while", "(");
            exp(1);
            add(")");
            block(depth, true);
        } else {
            block(depth, inLoop);
        }
    }

    private void block(int depth, boolean inLoop) {
        add("{");
        int statements = below(4);
        for (int i = 0; i < statements; i++) {
            statement(depth + 1, inLoop);
        }
        add("}");
    }

    private void exp(int depth) {
        int way = below(depth < 4 ? 8 : 3);
        if (way < 2) {
            add(name());
        } else if (way < 3) {
            add(below(20) == 0 ? "2147483648" : String.valueOf(below(4)));
        } else if (way < 4) {
            add(below(2) == 0 ? "-" : "!");
            exp(depth + 1);
        } else if (way < 5) {
            add("(");
            exp(depth + 1);
            add(")");
        } else {
            exp(depth + 1);
            add(SIGNS[below(SIGNS.length)]);
            exp(depth + 1);
        }
    }

    private String name() {
        return below(40) == 0 ? "abcdefghijklmnop" : String.valueOf((char) ('a' + below(5)));
    }
}
