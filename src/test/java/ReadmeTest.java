import java.lang.reflect.Method;
import java.lang.reflect.Modifier;
import java.nio.file.Files;
import java.nio.file.Path;
import java.util.regex.Matcher;
import java.util.regex.Pattern;

/** README.md: its example answers what it says, and it tells of every method of the face. */
public final class ReadmeTest {
    private static final Pattern EXAMPLE = Pattern.compile("```java\n(.*?)```", Pattern.DOTALL);
    private static final Pattern CALL = Pattern.compile("club\\.(\\w+)\\((.*?)\\);\\s+// (-?\\d+)");
    private static final Pattern ROW = Pattern.compile("(?m)^\\| `(\\w+)\\((.*?)\\)`");

    public static void main(String[] args) throws Exception {
        String text = Files.readString(Path.of("README.md"));
        example(text);
        methods(text);
        Check.end();
    }

    private static void example(String text) throws Exception {
        Matcher block = EXAMPLE.matcher(text);
        Check.due("an example", block.find() ? 1 : 0, 1);
        String[] lines = block.group(1).split("\n");
        HamperClub club = new HamperClub();
        for (int index = 1; index < lines.length; index++) {
            Matcher call = CALL.matcher(lines[index]);
            boolean isCall = call.lookingAt();
            Check.due("a call with its answer: " + lines[index], isCall ? 1 : 0, 1);
            if (isCall) {
                Check.due(lines[index], answer(club, call.group(1), call.group(2)), Integer.parseInt(call.group(3)));
            }
        }
    }

    private static int answer(HamperClub club, String name, String list) throws Exception {
        String[] words = parameters(list);
        Object[] numbers = new Object[words.length];
        Class<?>[] types = new Class<?>[words.length];
        for (int index = 0; index < words.length; index++) {
            boolean isSign = words[index].startsWith("'");
            numbers[index] = isSign ? (int) words[index].charAt(1) : Integer.parseInt(words[index]);
            types[index] = int.class;
        }
        return (int) HamperClub.class.getMethod(name, types).invoke(club, numbers);
    }

    /** Each method has one row in the tables, with all its parameters. */
    private static void methods(String text) {
        for (Method method : HamperClub.class.getDeclaredMethods()) {
            if (!Modifier.isPublic(method.getModifiers())) {
                continue;
            }
            int rows = 0;
            Matcher row = ROW.matcher(text);
            while (row.find()) {
                boolean same = row.group(1).equals(method.getName());
                rows += same && parameters(row.group(2)).length == method.getParameterCount() ? 1 : 0;
            }
            Check.due("rows for " + method.getName(), rows, 1);
        }
    }

    private static String[] parameters(String list) {
        return list.isEmpty() ? new String[0] : list.split(", ");
    }
}
