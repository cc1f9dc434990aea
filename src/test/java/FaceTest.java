import java.lang.reflect.Constructor;
import java.lang.reflect.Field;
import java.lang.reflect.Method;
import java.lang.reflect.Modifier;
import java.nio.file.Files;
import java.nio.file.Path;
import java.util.Set;
import java.util.TreeSet;
import java.util.regex.Matcher;
import java.util.regex.Pattern;

/** The public face of the document, and the rules of LANGUAGE.md that a simple look can tell. */
public final class FaceTest {
    private static final String PROGRAM = "src/main/java/HamperClub.java";
    private static final Set<String> METHODS = Set.of(
        "join()", "stick(int,int)", "withdraw(int,int)", "mislay(int)", "find(int)",
        "setHamper(int,int,int)", "choose(int,int)", "giveUp(int)", "week()", "settle()",
        "take(int)", "restore(int)", "undo()", "append(int)", "clearText()", "carryOut()",
        "count(int)", "member(int,int)", "isGood(int,int)", "hamper(int,int)", "waiting(int,int)",
        "would(int,int)", "bestKind(int)", "weeksFor(int,int,int)");
    private static final Set<String> CONSTANTS = Set.of(
        "INVALID_ARGUMENT", "ILLEGAL_STATE", "CAPACITY_EXCEEDED", "NONE");
    private static final Pattern FORBIDDEN = Pattern.compile(
        "\\b(throw|throws|try|catch|finally|synchronized|assert|volatile|native|package)\\b|->|::|Exact\\b"
        + "|System\\.(?!arraycopy\\b)\\w+|\\b(Random|Thread|Object|Exception|Error|Throwable)\\b");

    public static void main(String[] args) throws Exception {
        members();
        constants();
        source(Files.readString(Path.of(PROGRAM)));
        Check.end();
    }

    private static void members() {
        Check.due("final", Modifier.isFinal(HamperClub.class.getModifiers()) ? 1 : 0, 1);
        Check.due("public", Modifier.isPublic(HamperClub.class.getModifiers()) ? 1 : 0, 1);
        Set<String> seen = new TreeSet<>();
        for (Method method : HamperClub.class.getDeclaredMethods()) {
            if (Modifier.isPrivate(method.getModifiers())) {
                Check.due("private name " + method.getName(), isPublicName(method.getName()) ? 1 : 0, 0);
                continue;
            }
            String form = form(method);
            seen.add(form);
            Check.due("method " + form, METHODS.contains(form) ? 1 : 0, 1);
            Check.due("public " + form, Modifier.isPublic(method.getModifiers()) ? 1 : 0, 1);
            Check.due("int " + form, method.getReturnType() == int.class ? 1 : 0, 1);
        }
        Check.due("all methods", seen.size(), METHODS.size());
        Constructor<?>[] constructors = HamperClub.class.getDeclaredConstructors();
        Check.due("one constructor", constructors.length, 1);
        Check.due("without parameters", constructors[0].getParameterCount(), 0);
        Check.due("public constructor", Modifier.isPublic(constructors[0].getModifiers()) ? 1 : 0, 1);
        for (Class<?> inside : HamperClub.class.getDeclaredClasses()) {
            Check.due("static " + inside, Modifier.isStatic(inside.getModifiers()) ? 1 : 0, 1);
            Check.due("not public " + inside, Modifier.isPublic(inside.getModifiers()) ? 1 : 0, 0);
            for (Method method : inside.getDeclaredMethods()) {
                Check.due("name inside " + method, isPublicName(method.getName()) ? 1 : 0, 0);
            }
        }
    }

    private static String form(Method method) {
        StringBuilder form = new StringBuilder(method.getName()).append('(');
        String comma = "";
        for (Class<?> type : method.getParameterTypes()) {
            form.append(comma).append(type.getName());
            comma = ",";
        }
        return form.append(')').toString();
    }

    private static boolean isPublicName(String name) {
        return METHODS.stream().anyMatch(form -> form.startsWith(name + "("));
    }

    private static void constants() {
        Check.due("INVALID_ARGUMENT", HamperClub.INVALID_ARGUMENT, -1);
        Check.due("ILLEGAL_STATE", HamperClub.ILLEGAL_STATE, -2);
        Check.due("CAPACITY_EXCEEDED", HamperClub.CAPACITY_EXCEEDED, -3);
        Check.due("NONE", HamperClub.NONE, -9);
        for (Field field : HamperClub.class.getDeclaredFields()) {
            int modifiers = field.getModifiers();
            boolean constant = CONSTANTS.contains(field.getName());
            Check.due("public " + field.getName(), Modifier.isPublic(modifiers) ? 1 : 0, constant ? 1 : 0);
            Check.due("private " + field.getName(), Modifier.isPrivate(modifiers) ? 1 : 0, constant ? 0 : 1);
            if (Modifier.isStatic(modifiers)) {
                Check.due("final " + field.getName(), Modifier.isFinal(modifiers) ? 1 : 0, 1);
            }
        }
    }

    private static void source(String text) {
        String code = text.replaceAll("(?s)/\\*.*?\\*/", " ").replaceAll("//[^\n]*", " ");
        Matcher matcher = FORBIDDEN.matcher(code);
        while (matcher.find()) {
            Check.due("'" + matcher.group() + "' in the program", 1, 0);
        }
        Matcher imports = Pattern.compile("import ([^;]+);").matcher(code);
        while (imports.find()) {
            Check.due("import " + imports.group(1), imports.group(1).equals("java.util.Arrays") ? 1 : 0, 1);
        }
        Check.due("signs beyond 127", text.chars().filter(sign -> sign > 127).count(), 0);
    }
}
