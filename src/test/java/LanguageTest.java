import java.io.IOException;
import java.lang.reflect.Field;
import java.lang.reflect.Method;
import java.lang.reflect.Modifier;
import java.nio.file.Files;
import java.nio.file.Path;
import java.util.Set;
import java.util.TreeSet;

/** What of the face and of ../shared/LANGUAGE.md can be looked up in the class and in its text. */
final class LanguageTest {
    private static final String SOURCE = "src/main/java/TransducerBench.java";
    private static final Set<String> FACE = Set.of("boolean machine(int,int)", "boolean begins(int,int,boolean)",
            "boolean ends(int,int,int)", "int arc(int,int,int,int,int)", "boolean copy(int)", "boolean take(int)",
            "int size(int,int)", "int useful(int,int)", "int apply(int,int)", "int output(int,int)", "int functional(int)",
            "int readers()", "int same()", "int sequential(int)", "int witness(int)", "int wrote(int,int)", "int told(int)",
            "int goes(int,int)", "int writes(int,int,int)", "int act(int)", "int acted(int)");
    private static final String[] RULED_OUT = {"throw", "throws", "try", "catch", "synchronized", "assert", "Random",
        "nanoTime", "currentTimeMillis", "System.out", "System.in", "getenv", "Thread", "Exact(", "::", "protected"};
    private static final Set<String> IMPORTS = Set.of("import java.util.ArrayList;", "import java.util.Arrays;",
            "import java.util.Iterator;", "import java.util.List;");
    private static final int MOST_CLASSES = 14;
    private static final int MOST_FIELDS = 24;
    private static final int MOST_PARAMETERS = 7;
    private static final Check CHECK = new Check();

    public static void main(String[] args) throws IOException {
        checkFace();
        checkClasses();
        checkText(Files.readString(Path.of(SOURCE)));
        CHECK.finish("LanguageTest");
    }

    private static String signature(Method method) {
        StringBuilder all = new StringBuilder(method.getReturnType().getName()).append(' ').append(method.getName()).append('(');
        for (int i = 0; i < method.getParameterCount(); i++) {
            all.append(i == 0 ? "" : ",").append(method.getParameterTypes()[i].getName());
        }
        return all.append(')').toString();
    }

    private static void checkFace() {
        Set<String> found = new TreeSet<>();
        for (Method method : TransducerBench.class.getDeclaredMethods()) {
            if (!Modifier.isPrivate(method.getModifiers())) {
                CHECK.due("public " + method, Modifier.isPublic(method.getModifiers()), true);
                found.add(signature(method));
            }
        }
        CHECK.due("the face", found.toString(), new TreeSet<>(FACE).toString());
        for (Field field : TransducerBench.class.getDeclaredFields()) {
            CHECK.due("private " + field, Modifier.isPrivate(field.getModifiers()), !field.getName().equals("NONE"));
        }
        CHECK.due("constructors", TransducerBench.class.getConstructors().length, 1);
        CHECK.due("all constructors", TransducerBench.class.getDeclaredConstructors().length, 1);
        CHECK.due("final", Modifier.isFinal(TransducerBench.class.getModifiers()), true);
    }

    private static void checkClasses() {
        Class<?>[] nested = TransducerBench.class.getDeclaredClasses();
        CHECK.due("some twelve classes", nested.length + 1 <= MOST_CLASSES, true);
        checkMembers(TransducerBench.class);
        for (Class<?> inside : nested) {
            int modifiers = inside.getModifiers();
            CHECK.due("static " + inside, Modifier.isStatic(modifiers), true);
            CHECK.due("not to be seen " + inside, Modifier.isPublic(modifiers) || Modifier.isProtected(modifiers), false);
            checkMembers(inside);
        }
    }

    private static void checkMembers(Class<?> owner) {
        Set<String> names = new TreeSet<>();
        for (String signature : FACE) {
            names.add(signature.substring(signature.indexOf(' ') + 1, signature.indexOf('(')));
        }
        for (Method method : owner.getDeclaredMethods()) {
            boolean hidden = Modifier.isPrivate(method.getModifiers());
            CHECK.due("a name of its own: " + method, hidden && names.contains(method.getName()), false);
            CHECK.due("no lambda: " + method, method.getName().startsWith("lambda$"), false);
            CHECK.due("seven parameters: " + method, method.getParameterCount() <= MOST_PARAMETERS, true);
        }
        int fields = 0;
        for (Field field : owner.getDeclaredFields()) {
            boolean shared = Modifier.isStatic(field.getModifiers());
            CHECK.due("final " + field, !shared || Modifier.isFinal(field.getModifiers()), true);
            fields += shared ? 0 : 1;
        }
        CHECK.due("some twenty fields: " + owner, fields <= MOST_FIELDS, true);
    }

    private static void checkText(String source) {
        String code = source.replaceAll("(?s)/\\*.*?\\*/", "").replaceAll("//[^\n]*", "");
        for (String word : RULED_OUT) {
            boolean name = Character.isLetter(word.charAt(0)) && Character.isLetter(word.charAt(word.length() - 1));
            String pattern = name ? "(?s).*\\b" + word + "\\b.*" : "(?s).*" + java.util.regex.Pattern.quote(word) + ".*";
            CHECK.due("ruled out: " + word, code.matches(pattern), false);
        }
        for (String line : code.split("\n")) {
            if (line.startsWith("import ")) {
                CHECK.due(line, IMPORTS.contains(line), true);
            }
        }
    }
}
