import java.io.IOException;
import java.lang.reflect.Field;
import java.lang.reflect.Member;
import java.lang.reflect.Method;
import java.lang.reflect.Modifier;
import java.nio.file.Files;
import java.nio.file.Path;
import java.util.ArrayList;
import java.util.List;
import java.util.Set;
import java.util.TreeSet;
import java.util.regex.Matcher;
import java.util.regex.Pattern;

/** The public face, and those rules of LANGUAGE.md that a program can look at. */
public final class LanguageTest {
    private static final Checks CHECKS = new Checks();
    private static final Path DOCUMENT = Path.of("../shared/DOC.md");
    private static final int METHODS = 27;
    private static final int CONSTANTS = 6;

    public static void main(String[] args) throws IOException, IllegalAccessException {
        face();
        constants();
        names();
        staticFields();
        words();
        CHECKS.end();
    }

    private static List<Class<?>> classes() {
        List<Class<?>> all = new ArrayList<>(List.of(TermOffice.class.getDeclaredClasses()));
        all.add(TermOffice.class);
        return all;
    }

    private static String told(Method method) {
        StringBuilder text = new StringBuilder(method.getReturnType() + " " + method.getName() + "(");
        for (Class<?> type : method.getParameterTypes()) {
            text.append(text.charAt(text.length() - 1) == '(' ? "" : ",").append(type);
        }
        return text.append(")").toString();
    }

    /** The lines of the document's public face that match, a group of each. */
    private static Set<String> faceOfTheDocument(String wanted) throws IOException {
        Set<String> found = new TreeSet<>();
        Matcher matcher = Pattern.compile("(?m)^    public " + wanted + ";$").matcher(Files.readString(DOCUMENT));
        while (matcher.find()) {
            found.add(matcher.group(1));
        }
        return found;
    }

    private static Set<String> methodsOfTheDocument() throws IOException {
        Set<String> methods = new TreeSet<>();
        for (String method : faceOfTheDocument("((?:int|long) \\w+\\(.*\\))")) {
            methods.add(method.replaceAll("(int|boolean) \\w+(?=[,)])", "$1").replace(", ", ","));
        }
        return methods;
    }

    private static void face() throws IOException {
        Set<String> found = new TreeSet<>();
        for (Method method : TermOffice.class.getDeclaredMethods()) {
            if (!Modifier.isPrivate(method.getModifiers())) {
                found.add(told(method));
                CHECKS.holds(method + " is public", Modifier.isPublic(method.getModifiers()));
                CHECKS.holds(method + " is an object's", !Modifier.isStatic(method.getModifiers()));
            }
        }
        CHECKS.due("methods in the document", methodsOfTheDocument().size(), METHODS);
        CHECKS.holds("the face's methods: " + found, found.equals(methodsOfTheDocument()));
        int modifiers = TermOffice.class.getModifiers();
        CHECKS.holds("public and final", Modifier.isPublic(modifiers) && Modifier.isFinal(modifiers));
        CHECKS.due("constructors", TermOffice.class.getDeclaredConstructors().length, 1);
        CHECKS.due("public constructors", TermOffice.class.getConstructors().length, 1);
    }

    private static void constants() throws IOException, IllegalAccessException {
        Set<String> found = new TreeSet<>();
        for (Field field : TermOffice.class.getDeclaredFields()) {
            if (!Modifier.isPrivate(field.getModifiers())) {
                CHECKS.holds(field + " is public", Modifier.isPublic(field.getModifiers()));
                CHECKS.holds(field + " is an int", field.getType() == int.class);
                found.add(field.getName() + " = " + field.getInt(null));
            }
        }
        Set<String> wanted = faceOfTheDocument("static final int (\\w+ = -\\d)");
        CHECKS.due("constants in the document", wanted.size(), CONSTANTS);
        CHECKS.holds("the face's constants: " + found, found.equals(wanted));
    }

    private static void names() throws IOException {
        Set<String> open = new TreeSet<>();
        for (String method : methodsOfTheDocument()) {
            open.add(method.substring(method.indexOf(' ') + 1, method.indexOf('(')));
        }
        for (Class<?> type : classes()) {
            for (Method method : type.getDeclaredMethods()) {
                boolean isFace = type == TermOffice.class && Modifier.isPublic(method.getModifiers());
                CHECKS.holds("no other method has a name of the face: " + method,
                    isFace || !open.contains(method.getName()));
                CHECKS.holds("at most seven parameters: " + method, method.getParameterCount() <= 7);
            }
            CHECKS.holds("static or the class itself: " + type,
                type == TermOffice.class || Modifier.isStatic(type.getModifiers()));
        }
        CHECKS.holds("at most twelve classes", classes().size() <= 12);
    }

    private static void staticFields() {
        for (Class<?> type : classes()) {
            int own = 0;
            for (Field field : type.getDeclaredFields()) {
                boolean isStatic = Modifier.isStatic(((Member) field).getModifiers());
                own += isStatic ? 0 : 1;
                CHECKS.holds("static fields are final: " + field,
                    !isStatic || Modifier.isFinal(field.getModifiers()));
            }
            CHECKS.holds("at most twenty fields: " + type, own <= 20);
        }
    }

    private static void words() throws IOException {
        String source = Files.readString(Path.of("src/main/java/TermOffice.java"));
        String[] forbidden = {"\\bthrow\\b", "\\btry\\b", "\\bcatch\\b", "\\bsynchronized\\b", "\\bassert\\b",
            "\\bpackage\\b", "->", "::", "Exact\\(", "\\binstanceof\\b", "\\bdouble\\b", "\\bfloat\\b",
            "static \\{", "\\bString\\b", "import (?!java\\.util\\.Arrays;)",
            "\\b(Math|Integer|Long)\\.(?!bitCount|min|max)", "System\\.(?!arraycopy)"};
        for (String word : forbidden) {
            CHECKS.holds("no " + word, !source.matches("(?s).*" + word + ".*"));
        }
        CHECKS.holds("plain signs", source.matches("[\\n -~]*"));
    }
}
