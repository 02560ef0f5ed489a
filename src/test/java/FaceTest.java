import java.lang.reflect.Constructor;
import java.lang.reflect.Field;
import java.lang.reflect.Method;
import java.lang.reflect.Modifier;
import java.nio.file.Files;
import java.nio.file.Path;
import java.util.TreeSet;
import java.util.regex.Matcher;
import java.util.regex.Pattern;

/** The public face, and what can be seen of the rules of LANGUAGE.md. It is run from the project's own directory. */
public final class FaceTest {
    private static final Check CHECK = new Check();

    private static final String[] CALLS = {"set 2", "member 0", "away 2", "leave 1", "give 2", "memberOf 2",
        "account 1", "debtorAt 1", "tool 3", "hang 3", "borrow 2", "giveBack 1", "toolOf 2", "bits 1",
        "dullBehind 2", "mean 1", "hookAt 2", "sharpen 0", "swap 2", "turnAt 1", "dullAt 1", "lose 1", "say 3",
        "find 1", "panelAt 3", "propose 3", "vote 3", "proposalOf 2", "lendOut 4", "comeBack 1", "pass 1", "count 1",
        "undo 0", "type 1", "clearText 0", "fault 1", "play 0"};
    private static final String[] CONSTANTS = {"INVALID_ARGUMENT -1000001", "NOT_POSSIBLE -1000002",
        "LIMIT_REACHED -1000003", "NOT_FOUND -1000004"};

    /** What the rules leave out, and exceptions, which the document asks for nowhere; comments are not looked at. */
    private static final String[] NOT_IN_SOURCE = {"\\bimport\\b", "\\bpackage\\b", "->", "::", "\\bthrows?\\b",
        "\\btry\\b", "\\bcatch\\b", "\\bfinally\\b", "\\bassert\\b", "\\bsynchronized\\b", "\\bnative\\b", "\\bvar\\b",
        "\\bstatic\\s*\\{", "\\bFloat\\.", "\\bDouble\\.", "\\bObject\\b", "\\bThread\\b", "Exact\\b",
        "\\bprotected\\b", "\\b(equals|hashCode|toString)\\b", "\\bSystem\\.(?!arraycopy\\b)"};

    public static void main(String[] args) throws Exception {
        promise1Constructor();
        constants();
        calls();
        classesInside();
        source();
        CHECK.close("FaceTest");
    }

    private static void promise1Constructor() {
        CHECK.due("the class is public and final", Modifier.PUBLIC | Modifier.FINAL, ToolShed.class.getModifiers());
        Constructor<?>[] all = ToolShed.class.getDeclaredConstructors();
        CHECK.due("constructors", 1, all.length);
        CHECK.due("arguments of the constructor", 0, all[0].getParameterCount());
        CHECK.due("it is public", Modifier.PUBLIC, all[0].getModifiers());
    }

    private static void constants() throws Exception {
        TreeSet<String> found = new TreeSet<>();
        for (Field field : ToolShed.class.getDeclaredFields()) {
            if (!Modifier.isPrivate(field.getModifiers())) {
                int constant = Modifier.PUBLIC | Modifier.STATIC | Modifier.FINAL;
                CHECK.due("modifiers of " + field, constant, field.getModifiers());
                found.add(field.getName() + " " + field.getInt(null));
            } else if (Modifier.isStatic(field.getModifiers())) {
                CHECK.due("is final: " + field, 1, Modifier.isFinal(field.getModifiers()) ? 1 : 0);
            }
        }
        CHECK.dueText("the constants", new TreeSet<>(java.util.List.of(CONSTANTS)).toString(), found.toString());
    }

    private static void calls() {
        TreeSet<String> face = new TreeSet<>();
        TreeSet<String> names = new TreeSet<>();
        for (Method method : ToolShed.class.getDeclaredMethods()) {
            if (Modifier.isPrivate(method.getModifiers())) {
                continue;
            }
            CHECK.due("is public: " + method, Modifier.PUBLIC, method.getModifiers());
            CHECK.due("answers an int: " + method, 1, method.getReturnType() == int.class ? 1 : 0);
            for (Class<?> type : method.getParameterTypes()) {
                CHECK.due("takes an int: " + method, 1, type == int.class ? 1 : 0);
            }
            face.add(method.getName() + " " + method.getParameterCount());
            names.add(method.getName());
        }
        CHECK.dueText("the calls", new TreeSet<>(java.util.List.of(CALLS)).toString(), face.toString());
        for (Method method : ToolShed.class.getDeclaredMethods()) {
            boolean meets = Modifier.isPrivate(method.getModifiers()) && names.contains(method.getName());
            CHECK.due("bears a public name: " + method, 0, meets ? 1 : 0);
        }
    }

    private static void classesInside() {
        Class<?>[] inside = ToolShed.class.getDeclaredClasses();
        CHECK.due("at most twelve classes", 1, inside.length <= 12 ? 1 : 0);
        for (Class<?> type : inside) {
            CHECK.due(type + " is static", 1, Modifier.isStatic(type.getModifiers()) ? 1 : 0);
            CHECK.due(type + " is not public", 0, type.getModifiers() & (Modifier.PUBLIC | Modifier.PROTECTED));
            CHECK.due(type + " has at most twenty fields", 1, type.getDeclaredFields().length <= 20 ? 1 : 0);
            for (Method method : type.getDeclaredMethods()) {
                CHECK.due("at most seven parameters: " + method, 1, method.getParameterCount() <= 7 ? 1 : 0);
            }
        }
    }

    private static void source() throws Exception {
        String source = Files.readString(Path.of("src/main/java/ToolShed.java"));
        String code = source.replaceAll("(?s)/\\*.*?\\*/", "").replaceAll("//[^\n]*", "").replaceAll("'.'", "' '");
        for (String pattern : NOT_IN_SOURCE) {
            Matcher found = Pattern.compile(pattern).matcher(code);
            CHECK.dueText("in the source, by " + pattern, "", found.find() ? found.group() : "");
        }
        CHECK.due("no texts, so none are joined", -1, code.indexOf('"'));
        for (char sign : source.toCharArray()) {
            if (sign > 126 || sign < 32 && sign != '\n') {
                CHECK.due("a sign of the source", 32, sign);
            }
        }
        CHECK.due("each array or object is made by a field or a constructor", 1, madeOutsideConstructors(code) ? 0 : 1);
    }

    /** Calls may make nothing, since all that a run makes stays in one room. */
    private static boolean madeOutsideConstructors(String code) {
        for (String line : code.split("\n")) {
            boolean isField = line.contains("final ");
            boolean inConstructor = line.matches("\\s*(all|tools|states)\\[i\\] = new \\w+\\(\\);");
            if (line.contains("new ") && !isField && !inConstructor) {
                System.out.println("made outside: " + line);
                return true;
            }
        }
        return false;
    }
}
