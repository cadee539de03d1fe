import java.lang.reflect.Field;
import java.lang.reflect.Method;
import java.lang.reflect.Modifier;
import java.nio.file.Files;
import java.nio.file.Path;
import java.util.List;
import java.util.Set;
import java.util.TreeSet;
import java.util.regex.Pattern;

/** The face of the class is the document's, and its text keeps to the rules of LANGUAGE.md. */
public final class FaceTest {
    private static final Check CHECK = new Check("the face and the language");
    private static final Path SOURCE = Path.of("src/main/java/TinyFront.java");

    private static final Set<String> METHODS = new TreeSet<>(List.of(
        "int feed(long,int)", "int clear()", "int lex()", "int token(int,int)", "int slots()",
        "int parse()", "int reduced(int)", "int node(int,int)", "int compile()",
        "int code(int,int)", "int input(int,int)", "int runTree(int)", "int runCode(int)",
        "int ran(int)", "int out(int)", "int value(int)"));

    private static final String[] FORBIDDEN = {
        "\\bthrow\\b", "\\btry\\b", "\\bcatch\\b", "\\bsynchronized\\b", "\\bassert\\b",
        "\\bThread\\b", "\\bRandom\\b", "\\bSystem\\.(?!arraycopy)", "Exact\\(", "->", "::",
        "static\\s*\\{", "\\bpackage\\b", "import (?!java\\.util\\.Arrays;)", "\\bprotected\\b",
        "\\bfloat\\b", "\\bdouble\\b", "\\bObject\\b", "\\bnull\\b",
    };

    public static void main(String[] args) throws Exception {
        publicFace();
        classesInside();
        forbiddenWords();
        CHECK.end();
    }

    private static void yes(String what, boolean is) {
        CHECK.due(what, is ? 1 : 0, 1);
    }

    private static void publicFace() {
        Class<?> face = TinyFront.class;
        yes("public", Modifier.isPublic(face.getModifiers()));
        yes("final", Modifier.isFinal(face.getModifiers()));
        CHECK.due("constructors", face.getConstructors().length, 1);
        CHECK.due("its parameters", face.getConstructors()[0].getParameterCount(), 0);
        Set<String> found = new TreeSet<>();
        for (Method method : face.getDeclaredMethods()) {
            if (!Modifier.isPrivate(method.getModifiers())) {
                String text = method.toString().replace("TinyFront.", "");
                found.add(text.replaceFirst("^public ", ""));
            }
        }
        yes("methods " + found, found.equals(METHODS));
        for (Field field : face.getDeclaredFields()) {
            boolean constant = Set.of("BAD", "FULL", "NOT_YET").contains(field.getName());
            int modifiers = field.getModifiers();
            yes("field " + field, constant
                ? Modifier.isPublic(modifiers) && Modifier.isStatic(modifiers)
                : Modifier.isPrivate(modifiers));
            yes("static and final " + field,
                !Modifier.isStatic(modifiers) || Modifier.isFinal(modifiers));
        }
    }

    private static void classesInside() {
        Set<String> names = new TreeSet<>();
        for (Method method : TinyFront.class.getMethods()) {
            names.add(method.getName());
        }
        Class<?>[] inside = TinyFront.class.getDeclaredClasses();
        yes("at most twelve classes", inside.length + 1 <= 12);
        for (Class<?> one : inside) {
            yes("static " + one, Modifier.isStatic(one.getModifiers()));
            yes("some twenty fields of " + one, instanceFields(one) <= 20);
            for (Field field : one.getDeclaredFields()) {
                int modifiers = field.getModifiers();
                yes("static and final " + field,
                    !Modifier.isStatic(modifiers) || Modifier.isFinal(modifiers));
            }
            for (Method method : one.getDeclaredMethods()) {
                yes("parameters of " + method, method.getParameterCount() <= 7);
                yes("name of " + method, !names.contains(method.getName()));
            }
        }
    }

    private static int instanceFields(Class<?> one) {
        int count = 0;
        for (Field field : one.getDeclaredFields()) {
            count += Modifier.isStatic(field.getModifiers()) ? 0 : 1;
        }
        return count;
    }

    private static void forbiddenWords() throws Exception {
        String text = Files.readString(SOURCE);
        String bare = text.replaceAll("(?s)/\\*.*?\\*/", "").replaceAll("//[^\\n]*", "");
        for (String word : FORBIDDEN) {
            yes("nothing like " + word, !Pattern.compile(word).matcher(bare).find());
        }
    }
}
