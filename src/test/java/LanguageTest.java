import java.lang.reflect.Constructor;
import java.lang.reflect.Field;
import java.lang.reflect.Method;
import java.lang.reflect.Modifier;
import java.nio.file.Files;
import java.nio.file.Path;
import java.util.Arrays;
import java.util.List;
import java.util.TreeSet;
import java.util.regex.Matcher;
import java.util.regex.Pattern;

/** The class's face, and those rules of LANGUAGE.md that can be read off the text. */
public final class LanguageTest {
    private static final Path SOURCE = Path.of("src/main/java/OneTriangle.java");

    private static final List<String> FACE = List.of(
        "int type 1", "int wipe 0", "int undo 0", "int fault 0", "int bar 2", "int odds 3", "int set 2",
        "int read 1", "int hear 2", "int shown 2", "int forget 0", "long where 3", "int likeliest 1",
        "long strike 2", "int line 0", "long slips 3", "long safe 2", "int write 1", "int few 1",
        "int anew 1", "long joint 3", "long evening 2", "int prime 1", "int player 2", "int leave 0",
        "int worth 1", "int look 1", "int from 1", "int said 1", "int wrong 1", "int blame 0",
        "int night 2", "int sheet 3", "int lose 1", "int put 4", "int get 3", "int copy 5", "int tell 1",
        "int count 1", "long digest 0");

    private static final List<String> BANNED = List.of("throw", "throws", "try", "catch", "synchronized",
        "assert", "finally", "double", "float", "Object", "Thread", "Random", "Exception", "hashCode",
        "toString", "System\\.out", "currentTimeMillis", "nanoTime", "\\w+Exact", "volatile", "native",
        "package", "protected", "yield", "var");

    private static final int MOST_LINES = 60, MOST_CLASSES = 12, MOST_FIELDS = 20, MOST_PARAMETERS = 7;

    private LanguageTest() {
    }

    public static void main(String[] args) throws Exception {
        face();
        String text = withoutComments(Files.readString(SOURCE));
        words(text);
        classes();
        methodLengths(text);
        Check.close();
    }

    private static void face() {
        TreeSet<String> seen = new TreeSet<>();
        TreeSet<String> hidden = new TreeSet<>();
        for (Method method : OneTriangle.class.getDeclaredMethods()) {
            String told = method.getReturnType() + " " + method.getName() + " " + method.getParameterCount();
            if (Modifier.isPrivate(method.getModifiers())) {
                hidden.add(method.getName());
            } else {
                seen.add(told);
                Check.holds("face: public " + told, Modifier.isPublic(method.getModifiers()));
            }
            Check.holds("face: of ints or own " + told, Arrays.stream(method.getParameterTypes())
                .allMatch(type -> Modifier.isPrivate(method.getModifiers()) || type == int.class));
        }
        Check.holds("face: just these methods " + seen, seen.equals(new TreeSet<>(FACE)));
        for (String told : FACE) {
            Check.holds("face: no private " + told, !hidden.contains(told.split(" ")[1]));
        }
        TreeSet<String> fields = new TreeSet<>();
        for (Field field : OneTriangle.class.getDeclaredFields()) {
            if (!Modifier.isPrivate(field.getModifiers())) {
                fields.add(field.getName());
            }
        }
        Check.holds("face: just these constants", fields.equals(new TreeSet<>(List.of("NONE", "BAD", "NOT", "FULL"))));
        Constructor<?>[] made = OneTriangle.class.getDeclaredConstructors();
        Check.holds("face: one constructor", made.length == 1 && made[0].getParameterCount() == 0);
        int modifiers = OneTriangle.class.getModifiers();
        Check.holds("face: public and final", Modifier.isPublic(modifiers) && Modifier.isFinal(modifiers));
    }

    private static String withoutComments(String text) {
        return text.replaceAll("(?s)/\\*.*?\\*/", "").replaceAll("//[^\n]*", "");
    }

    private static void words(String text) {
        for (String word : BANNED) {
            Matcher found = Pattern.compile("\\b" + word + "\\b").matcher(text);
            Check.holds("words: no " + word, !found.find());
        }
        Check.holds("words: no lambda", !text.contains("->"));
        Check.holds("words: no method reference", !text.contains("::"));
        Matcher imports = Pattern.compile("import ([\\w.*]+);").matcher(text);
        while (imports.find()) {
            Check.due("words: import " + imports.group(1), imports.group(1).equals("java.util.Arrays") ? 1 : 0, 1);
        }
        for (int i = 0; i < text.length(); i++) {
            if (text.charAt(i) > 127) {
                Check.holds("words: sign at " + i, false);
            }
        }
    }

    private static void classes() {
        Class<?>[] inside = OneTriangle.class.getDeclaredClasses();
        Check.holds("classes: twelve at most", inside.length + 1 <= MOST_CLASSES);
        fields(OneTriangle.class);
        for (Class<?> one : inside) {
            Check.holds("classes: static " + one, Modifier.isStatic(one.getModifiers()));
            fields(one);
        }
    }

    private static void fields(Class<?> one) {
        int own = 0;
        for (Field field : one.getDeclaredFields()) {
            boolean isStatic = Modifier.isStatic(field.getModifiers());
            Check.holds("fields: static is final, " + field, !isStatic || Modifier.isFinal(field.getModifiers()));
            own += isStatic ? 0 : 1;
        }
        Check.holds("fields: twenty at most in " + one, own <= MOST_FIELDS);
        for (Method method : one.getDeclaredMethods()) {
            Check.holds("methods: seven parameters at most, " + method, method.getParameterCount() <= MOST_PARAMETERS);
        }
    }

    /** A method begins at a line that ends in ") {" with a return type, and ends at its indent's brace. */
    private static void methodLengths(String text) {
        String[] lines = text.split("\n");
        Pattern head = Pattern.compile("( +)(public|private|static|final|int|long|boolean|void)\\b[^=;]*\\) \\{");
        int methods = 0;
        for (int i = 0; i < lines.length; i++) {
            Matcher found = head.matcher(lines[i]);
            if (found.matches()) {
                int end = i;
                while (end < lines.length && !lines[end].equals(found.group(1) + "}")) {
                    end++;
                }
                methods++;
                Check.holds("length of " + lines[i].trim(), end - i < MOST_LINES);
            }
        }
        Check.holds("length: methods were found", methods > FACE.size());
    }
}
