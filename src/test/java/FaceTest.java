import java.lang.reflect.Constructor;
import java.lang.reflect.Field;
import java.lang.reflect.Method;
import java.lang.reflect.Modifier;
import java.nio.file.Files;
import java.nio.file.Path;
import java.util.Arrays;
import java.util.List;
import java.util.TreeSet;
import java.util.regex.Pattern;

/** The public face as the document tells it, and such rules of LANGUAGE.md as can be read off. */
public final class FaceTest {
    private static final List<String> METHODS = List.of(
            "int pack(boolean)", "int version(int, int)", "boolean install(int, int)",
            "int need(int, int, int, int, int)", "boolean call(int, boolean)", "int advisory(int)",
            "boolean span(int, int, int)", "boolean severity(int, int, int, int, int, int)",
            "boolean withdraw(int, boolean)", "int same(int, int)", "int group(int)",
            "int score(int)", "boolean except(int, int, int)", "int tick(int)", "int hits()",
            "int hit(int, int)", "int broken()", "int plan()", "int planned(int)", "int update()");
    private static final List<String> BARRED = List.of(
            "\\bthrow\\b", "\\btry\\b", "\\bcatch\\b", "\\bsynchronized\\b", "\\bassert\\b", "->",
            "::", "\\bpackage \\w", "Exact\\b", "\\bfloat\\b", "\\bdouble\\b", "\\bObject\\b");
    private static final Check check = new Check();

    public static void main(String[] args) throws Exception {
        check.about("the face");
        Class<?> face = AdvisoryMatch.class;
        check.yes("public and final", Modifier.isPublic(face.getModifiers())
                && Modifier.isFinal(face.getModifiers()));
        methods(face);
        fields(face);
        Constructor<?>[] made = face.getDeclaredConstructors();
        check.same("constructors", 1, made.length);
        check.yes("the constructor", made[0].getParameterCount() == 0
                && Modifier.isPublic(made[0].getModifiers()));
        nested(face);
        check.about("the language");
        source();
        check.end("FaceTest");
    }

    private static String textOf(Method method) {
        String parameters = String.join(", ",
                Arrays.stream(method.getParameterTypes()).map(Class::getSimpleName).toList());
        return method.getReturnType() + " " + method.getName() + "(" + parameters + ")";
    }

    private static void methods(Class<?> face) {
        TreeSet<String> found = new TreeSet<>();
        TreeSet<String> names = new TreeSet<>();
        for (Method method : face.getDeclaredMethods()) {
            if (Modifier.isPublic(method.getModifiers())) {
                found.add(textOf(method));
                names.add(method.getName());
            }
        }
        check.yes("the public methods " + found, found.equals(new TreeSet<>(METHODS)));
        for (Method method : face.getDeclaredMethods()) {
            if (!Modifier.isPublic(method.getModifiers()) && !method.isSynthetic()) {
                check.yes(method + " private, with a name of its own",
                        Modifier.isPrivate(method.getModifiers())
                        && !names.contains(method.getName()));
            }
        }
    }

    private static void fields(Class<?> face) {
        for (Field field : face.getDeclaredFields()) {
            int kind = field.getModifiers();
            boolean constant = field.getName().equals("NONE") && Modifier.isPublic(kind)
                    && Modifier.isStatic(kind) && Modifier.isFinal(kind)
                    && field.getType() == int.class;
            check.yes(field.toString(), constant || Modifier.isPrivate(kind));
            check.yes(field + " final if static", !Modifier.isStatic(kind) || Modifier.isFinal(kind));
        }
        check.same("NONE", -1, AdvisoryMatch.NONE);
    }

    private static void nested(Class<?> face) {
        check.yes("at most twelve classes", face.getDeclaredClasses().length < 12);
        for (Class<?> inside : face.getDeclaredClasses()) {
            int kind = inside.getModifiers();
            check.yes(inside + " private and static",
                    Modifier.isPrivate(kind) && Modifier.isStatic(kind));
            for (Method method : inside.getDeclaredMethods()) {
                check.yes(method + " with at most seven parameters", method.getParameterCount() <= 7);
                check.yes(method + " with a name that isn't the face's", METHODS.stream()
                        .noneMatch(m -> m.contains(" " + method.getName() + "(")));
            }
            for (Field field : inside.getDeclaredFields()) {
                check.yes(field + " final if static", !Modifier.isStatic(field.getModifiers())
                        || Modifier.isFinal(field.getModifiers()));
            }
        }
    }

    private static void source() throws Exception {
        String text = Files.readString(Path.of("src/main/java/AdvisoryMatch.java"));
        String code = text.replaceAll("(?s)/\\*.*?\\*/", "").replaceAll("//[^\n]*", "");
        for (String word : BARRED) {
            check.no("a use of " + word, Pattern.compile(word).matcher(code).find());
        }
        check.yes("no import but Arrays",
                code.replace("import java.util.Arrays;", "").indexOf("import") < 0);
        check.yes("characters 0 to 127 alone", text.chars().allMatch(c -> c < 128));
        madeWithTheObject(code);
        shortMethods(code);
    }

    /** All arrays and objects are made by fields and by the constructor of the face. */
    private static void madeWithTheObject(String code) {
        int start = code.indexOf("public AdvisoryMatch() {");
        int end = code.indexOf("}", start);
        String rest = code.substring(0, start) + code.substring(end);
        for (String line : rest.split("\n")) {
            check.yes("made with the object:" + line,
                    !line.matches(".*\\bnew\\b.*|.*\\.clone\\(.*|.*copyOf.*")
                    || line.matches("        private final \\S+ \\w+ = new .*"));
        }
    }

    /** The lines from one that opens a method to the one that closes it at the same depth. */
    private static void shortMethods(String code) {
        String[] lines = code.split("\n");
        int found = 0;
        for (int first = 0; first < lines.length; first++) {
            if (lines[first].matches("( {4}| {8})(?!if |for )\\w[^=]*\\) \\{")) {
                String close = lines[first].replaceAll("\\S.*", "") + "}";
                int last = first;
                while (last < lines.length && !lines[last].equals(close)) {
                    last++;
                }
                check.yes("at most sixty lines:" + lines[first], last - first < 60);
                found++;
            }
        }
        check.yes("methods are found", found > 60);
    }
}
