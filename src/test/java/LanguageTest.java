import java.lang.reflect.Field;
import java.lang.reflect.Member;
import java.lang.reflect.Method;
import java.lang.reflect.Modifier;
import java.nio.file.Files;
import java.nio.file.Path;
import java.util.ArrayList;
import java.util.List;
import java.util.Set;
import java.util.TreeSet;

/** The public face, and those rules of LANGUAGE.md that a program can look at. */
public final class LanguageTest {
    private static final Checks CHECKS = new Checks();
    private static final String[] FACE = {
        "int set(int,int)", "int join(int)", "int setPresent(int,boolean)", "int pass(int)", "int open()",
        "int nominate(int)", "int cast(int)", "int close()", "int rounds()", "int tally(int,int)",
        "int ballot(int,int)", "int office()", "int holder()", "int deed(boolean)", "int sign(int,boolean)",
        "int grade(int,int,int,int)", "int term(int,int)", "int points(int,int)", "int terms()",
        "int member(int,int)", "int time()", "int events()", "int event(int,int)", "int type(int)",
        "int clear()", "int undo()", "long fingerprint()"};

    public static void main(String[] args) throws Exception {
        face();
        constants();
        names();
        staticFields();
        words();
        CHECKS.end();
    }

    private static List<Class<?>> classes() {
        List<Class<?>> all = new ArrayList<>(List.of(TermOffice.class.getDeclaredClasses()));
        all.add(TermOffice.class);
        return all;
    }

    private static String told(Method method) {
        StringBuilder text = new StringBuilder(method.getReturnType() + " " + method.getName() + "(");
        for (Class<?> type : method.getParameterTypes()) {
            text.append(text.charAt(text.length() - 1) == '(' ? "" : ",").append(type);
        }
        return text.append(")").toString();
    }

    private static void face() {
        Set<String> found = new TreeSet<>();
        for (Method method : TermOffice.class.getDeclaredMethods()) {
            if (!Modifier.isPrivate(method.getModifiers())) {
                found.add(told(method));
                CHECKS.holds(method + " is public", Modifier.isPublic(method.getModifiers()));
            }
        }
        CHECKS.holds("the face's methods: " + found, found.equals(new TreeSet<>(List.of(FACE))));
        int modifiers = TermOffice.class.getModifiers();
        CHECKS.holds("public and final", Modifier.isPublic(modifiers) && Modifier.isFinal(modifiers));
        CHECKS.due("constructors", TermOffice.class.getDeclaredConstructors().length, 1);
        CHECKS.due("public constructors", TermOffice.class.getConstructors().length, 1);
    }

    private static void constants() throws Exception {
        String[] names = {"BAD", "STATE", "FULL", "LIMIT", "FORGED", "NONE"};
        int[] values = {-1, -2, -3, -4, -5, -9};
        for (int i = 0; i < names.length; i++) {
            CHECKS.due(names[i], TermOffice.class.getField(names[i]).getInt(null), values[i]);
        }
        int open = 0;
        for (Field field : TermOffice.class.getDeclaredFields()) {
            open += Modifier.isPrivate(field.getModifiers()) ? 0 : 1;
        }
        CHECKS.due("fields that are not private", open, names.length);
    }

    private static void names() {
        Set<String> open = new TreeSet<>();
        for (String method : FACE) {
            open.add(method.substring(method.indexOf(' ') + 1, method.indexOf('(')));
        }
        for (Class<?> type : classes()) {
            for (Method method : type.getDeclaredMethods()) {
                boolean isFace = type == TermOffice.class && Modifier.isPublic(method.getModifiers());
                CHECKS.holds("no other method has a name of the face: " + method,
                    isFace || !open.contains(method.getName()));
                CHECKS.holds("at most seven parameters: " + method, method.getParameterCount() <= 7);
            }
            CHECKS.holds("static or the class itself: " + type,
                type == TermOffice.class || Modifier.isStatic(type.getModifiers()));
        }
        CHECKS.holds("at most twelve classes", classes().size() <= 12);
    }

    private static void staticFields() {
        for (Class<?> type : classes()) {
            int own = 0;
            for (Field field : type.getDeclaredFields()) {
                boolean isStatic = Modifier.isStatic(((Member) field).getModifiers());
                own += isStatic ? 0 : 1;
                CHECKS.holds("static fields are final: " + field,
                    !isStatic || Modifier.isFinal(field.getModifiers()));
            }
            CHECKS.holds("at most twenty fields: " + type, own <= 20);
        }
    }

    private static void words() throws Exception {
        String source = Files.readString(Path.of("src/main/java/TermOffice.java"));
        String[] forbidden = {"\\bthrow\\b", "\\btry\\b", "\\bcatch\\b", "\\bsynchronized\\b", "\\bassert\\b",
            "\\bpackage\\b", "->", "::", "Exact\\(", "\\binstanceof\\b", "\\bdouble\\b", "\\bfloat\\b",
            "static \\{", "\\bString\\b", "import (?!java\\.util\\.Arrays;)",
            "\\b(Math|Integer|Long)\\.(?!bitCount|min|max)", "System\\.(?!arraycopy)"};
        for (String word : forbidden) {
            CHECKS.holds("no " + word, !source.matches("(?s).*" + word + ".*"));
        }
        CHECKS.holds("plain signs", source.matches("[\\n -~]*"));
    }
}
