import java.lang.reflect.InvocationTargetException;
import java.lang.reflect.Method;
import java.nio.file.Files;
import java.nio.file.Path;
import java.util.regex.Matcher;
import java.util.regex.Pattern;

/** Runs the calls that README.md shows, and its lines of a text, so that what it says stays true. */
public final class ReadmeTest {
    private static final Check CHECK = new Check();
    private static final Pattern CALL = Pattern.compile("^x\\.(\\w+)\\((.*)\\);\\s*(// ([-\\w]+).*)?$");
    private static final Pattern TEXT = Pattern.compile("^gorge\\(x, \"(.*)\"\\); // (\\d+).*$");
    private static final Pattern LINE = Pattern.compile("^\\| `(.*;)` \\|.*\\| (.*)\\|$");

    public static void main(String[] args) throws Exception {
        String readme = Files.readString(Path.of("README.md"));
        CHECK.due("calls that README.md shows", calls(readme) >= 30, true);
        CHECK.due("lines of a text that README.md shows", textLines(readme), 8);
        CHECK.end();
    }

    private static int calls(String readme) throws Exception {
        EchoGorge x = new EchoGorge();
        int many = 0;
        for (String line : readme.split("\n")) {
            Matcher text = TEXT.matcher(line);
            if (text.matches()) {
                CHECK.due(line, Check.gorge(x, text.group(1)), Integer.parseInt(text.group(2)));
            }
            Matcher call = CALL.matcher(line);
            if (call.matches()) {
                Object answer = answer(x, call.group(1), call.group(2));
                if (call.group(4) != null) {
                    CHECK.due(line, String.valueOf(answer), call.group(4));
                }
                many++;
            } else {
                CHECK.due("a call that can't be read: " + line, line.startsWith("x."), false);
            }
        }
        return many;
    }

    private static Object answer(EchoGorge x, String name, String arguments) throws Exception {
        String[] parts = arguments.isEmpty() ? new String[0] : arguments.split(", ");
        Object[] numbers = new Object[parts.length];
        for (int i = 0; i < parts.length; i++) {
            numbers[i] = parts[i].equals("EchoGorge.NONE") ? EchoGorge.NONE : Integer.parseInt(parts[i]);
        }
        for (Method method : EchoGorge.class.getMethods()) {
            if (method.getName().equals(name) && method.getParameterCount() == parts.length) {
                try {
                    return method.invoke(x, numbers);
                } catch (InvocationTargetException e) {
                    return "throws." + e.getCause().getClass().getSimpleName();
                }
            }
        }
        return "no such call";
    }

    /** Each line of the table is fine once behind three sounds; where it says at most n, it is fine n times, not n + 1. */
    private static int textLines(String readme) {
        int many = 0;
        for (String row : readme.split("\n")) {
            Matcher line = LINE.matcher(row);
            if (!line.matches()) {
                continue;
            }
            many++;
            String most = line.group(2).trim();
            String shown = line.group(1);
            int times = most.isEmpty() ? 20 : most.startsWith("once") ? 1 : Integer.parseInt(most);
            String ahead = shown.startsWith("sound") ? "" : "sound 9 0;sound 9 0;";
            CHECK.due(row, Check.gorge(new EchoGorge(), ahead + shown.repeat(times)), 0);
            boolean isMore = Check.gorge(new EchoGorge(), ahead + shown.repeat(times + 1)) == 0;
            CHECK.due(row + " and once more", isMore, most.isEmpty());
        }
        return many;
    }
}
