import java.lang.reflect.Constructor;
import java.lang.reflect.Field;
import java.lang.reflect.Method;
import java.lang.reflect.Modifier;
import java.nio.file.Files;
import java.nio.file.Path;
import java.util.Arrays;
import java.util.List;
import java.util.TreeSet;
import java.util.regex.Matcher;
import java.util.regex.Pattern;
import java.util.stream.Collectors;

/** The public face as the document has it, and what can be seen of LANGUAGE.md in the source. */
public final class FaceTest {
    private static final Check CHECK = new Check();

    private static final String[] FACE = {
        "int feed(int int int int int)", "int gorge(int) IllegalArgumentException", "int fault()",
        "int count(int) NoSuchElementException", "int wall(int int) NoSuchElementException",
        "int word(int int) NoSuchElementException", "int say(int int) NoSuchElementException", "int hush()",
        "int heard(int int int) NoSuchElementException", "int loud(int int int int) NoSuchElementException",
        "int lines(int int) NoSuchElementException", "int line(int int int) NoSuchElementException",
        "int still(int int) NoSuchElementException IllegalArgumentException",
        "int without(int int) NoSuchElementException", "int lasts(int) NoSuchElementException",
        "int sing(int int) NoSuchElementException", "int round(int) NoSuchElementException",
        "int tell(int) NoSuchElementException", "int untell()",
        "int rivals(int int) NoSuchElementException IllegalArgumentException",
        "int sayers(int) NoSuchElementException", "boolean stand(int int int) NoSuchElementException",
        "int matching(int int int) NoSuchElementException", "int moved(int int int int int) IllegalArgumentException",
        "int code(int int) NoSuchElementException", "void image()", "boolean restore()"};

    public static void main(String[] args) throws Exception {
        members();
        source(Files.readString(Path.of("src/main/java/EchoGorge.java")));
        CHECK.end();
    }

    private static void members() {
        CHECK.due("the class", Modifier.toString(EchoGorge.class.getModifiers()), "public final");
        TreeSet<String> open = new TreeSet<>();
        TreeSet<String> names = new TreeSet<>();
        for (Method method : EchoGorge.class.getDeclaredMethods()) {
            if (!Modifier.isPrivate(method.getModifiers())) {
                CHECK.due(method.getName(), Modifier.toString(method.getModifiers()), "public");
                open.add(described(method));
                names.add(method.getName());
            }
        }
        CHECK.due("the methods", open, new TreeSet<>(Arrays.asList(FACE)));
        for (Class<?> inside : EchoGorge.class.getDeclaredClasses()) {
            CHECK.due(inside.getName() + " is static", Modifier.isStatic(inside.getModifiers()), true);
            for (Method method : inside.getDeclaredMethods()) {
                CHECK.due(method + " bears a name of the face", names.contains(method.getName()), false);
            }
        }
        for (Method method : EchoGorge.class.getDeclaredMethods()) {
            if (Modifier.isPrivate(method.getModifiers())) {
                CHECK.due(method + " bears a name of the face", names.contains(method.getName()), false);
            }
        }
        Constructor<?>[] constructors = EchoGorge.class.getDeclaredConstructors();
        CHECK.due("constructors", constructors.length, 1);
        CHECK.due("the constructor", constructors[0].toString(), "public EchoGorge()");
        for (Field field : EchoGorge.class.getDeclaredFields()) {
            boolean isFace = field.getName().equals("NONE");
            CHECK.due(field.getName(), Modifier.isPublic(field.getModifiers()), isFace);
            CHECK.due(field.getName() + " is private", Modifier.isPrivate(field.getModifiers()), !isFace);
        }
        CHECK.due("NONE", EchoGorge.NONE, -1);
    }

    private static String described(Method method) {
        String types = Arrays.stream(method.getParameterTypes()).map(Class::getName).collect(Collectors.joining(" "));
        String thrown = Arrays.stream(method.getExceptionTypes()).map(e -> " " + e.getSimpleName()).collect(Collectors.joining());
        return method.getReturnType() + " " + method.getName() + "(" + types + ")" + thrown;
    }

    private static void source(String text) {
        for (String word : List.of("catch", "try", "finally", "synchronized", "assert", "instanceof", "static {", "->",
                "::", "Exact(", "package ", "System.out", "currentTimeMillis", "nanoTime", "Random", "Thread", "hashCode",
                "double", "float", "\t")) {
            CHECK.due("the source has " + word, Pattern.compile("(?<![a-zA-Z])" + Pattern.quote(word)).matcher(text).find(), false);
        }
        Matcher imports = Pattern.compile("(?m)^import (.*);$").matcher(text);
        while (imports.find()) {
            CHECK.due("import of " + imports.group(1), List.of("java.util.Arrays", "java.util.NoSuchElementException")
                    .contains(imports.group(1)), true);
        }
        Matcher calls = Pattern.compile("\\b(Arrays|Math|Integer|System)\\.([a-zA-Z]+)").matcher(text);
        while (calls.find()) {
            CHECK.due("use of " + calls.group(), List.of("Arrays.fill", "Math.max", "Math.min", "Math.abs", "Math.floorMod",
                    "Integer.bitCount", "System.arraycopy").contains(calls.group()), true);
        }
        for (char sign : text.toCharArray()) {
            CHECK.due("a sign beyond 127", sign > 127, false);
        }
        lengths(text.split("\n"));
    }

    /** Methods stay within sixty lines and seven parameters; the file within some twelve classes. */
    private static void lengths(String[] lines) {
        int classes = 0;
        Pattern head = Pattern.compile("^( {4}| {8})[a-zA-Z].*\\((.*)\\)[^;=]*\\{$");
        for (int i = 0; i < lines.length; i++) {
            classes += lines[i].matches(".*\\bclass [A-Z].*\\{") ? 1 : 0;
            Matcher method = head.matcher(lines[i]);
            if (!method.matches() || lines[i].trim().matches("(if|for|while|switch|else|do)\\b.*")) {
                continue;
            }
            int end = i;
            while (end < lines.length && !lines[end].equals(method.group(1) + "}")) {
                end++;
            }
            CHECK.due(lines[i].trim() + " has more than sixty lines", end - i + 1 > 60, false);
            CHECK.due(lines[i].trim() + " has more than seven parameters", method.group(2).split(",").length > 7, false);
        }
        CHECK.due("more than twelve classes", classes > 12, false);
    }
}
