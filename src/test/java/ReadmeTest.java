import java.io.IOException;
import java.lang.reflect.InvocationTargetException;
import java.lang.reflect.Method;
import java.lang.reflect.Modifier;
import java.nio.file.Files;
import java.nio.file.Path;
import java.util.ArrayList;
import java.util.List;
import java.util.TreeSet;
import java.util.regex.Matcher;
import java.util.regex.Pattern;

/** README.md's calls answer as it says, its method is this test's own, and it has every call of the face. */
public final class ReadmeTest {
    private static final Pattern NEW = Pattern.compile("GridColours x = new GridColours\\(\\);");
    private static final Pattern TELL = Pattern.compile("tell\\(x, \"([^\"]*)\"\\);");
    private static final Pattern CALL = Pattern.compile("x\\.(\\w+)\\(([^)]*)\\);\\s*// ([^:]*)(:.*)?");

    private static final TreeSet<String> called = new TreeSet<>();
    private static GridColours x = null;

    private ReadmeTest() {
    }

    public static void main(String[] args) throws IOException, IllegalAccessException {
        String page = Files.readString(Path.of("README.md"));
        int methods = 0;
        for (List<String> block : blocksOf(page)) {
            if (block.get(0).startsWith("static ")) {
                dueOwnMethod(block);
                methods++;
            } else {
                for (String line : block) {
                    runLine(line);
                }
            }
        }
        Check.due("methods on the page", methods, 1);
        dueWholeFace(page);
        Check.finish();
    }

    static void tell(GridColours x, String text) {
        int[] numbers = new int[(text.length() + 19) / 20 * 5];
        for (int i = 0; i < text.length(); i++) {
            numbers[i / 4] |= (text.charAt(i) & 255) << (24 - 8 * (i % 4));
        }
        for (int i = 0; i < numbers.length; i += 5) {
            x.feed(numbers[i], numbers[i + 1], numbers[i + 2], numbers[i + 3], numbers[i + 4]);
        }
        x.end(text.length());
    }

    private static List<List<String>> blocksOf(String page) {
        List<List<String>> blocks = new ArrayList<>();
        Matcher matcher = Pattern.compile("(?s)```java\n(.*?)\n```").matcher(page);
        while (matcher.find()) {
            blocks.add(matcher.group(1).lines().toList());
        }
        return blocks;
    }

    /** The method of the page stands in this test, too, so that it is compiled and used. */
    private static void dueOwnMethod(List<String> block) throws IOException {
        StringBuilder indented = new StringBuilder();
        for (String line : block) {
            indented.append("    ").append(line).append('\n');
        }
        String source = Files.readString(Path.of("src/test/java/ReadmeTest.java"));
        Check.due("the page's method is the test's: " + block.get(0), source.contains(indented), true);
    }

    private static void runLine(String line) throws IllegalAccessException {
        Matcher tell = TELL.matcher(line);
        Matcher call = CALL.matcher(line);
        if (NEW.matcher(line).matches()) {
            x = new GridColours();
        } else if (tell.matches() && x != null) {
            Check.due("the tape is empty ahead of " + line, x.now(6), 0);
            tell(x, tell.group(1).replace("\\n", "\n"));
        } else if (call.matches() && x != null) {
            dueAnswer(line, answerOf(call.group(1), call.group(2)), call.group(3).strip());
        } else {
            dueAnswer(line, "a line that this test can't read", "a call");
        }
    }

    private static void dueAnswer(String line, String got, String want) {
        if (!got.equals(want)) {
            System.out.println(line + " answered " + got);
        }
        Check.due(line, got.equals(want), true);
    }

    private static String answerOf(String name, String numbers) throws IllegalAccessException {
        Object[] arguments = argumentsOf(numbers);
        for (Method method : GridColours.class.getMethods()) {
            if (method.getName().equals(name) && method.getParameterCount() == arguments.length) {
                called.add(name);
                try {
                    return String.valueOf(method.invoke(x, arguments));
                } catch (InvocationTargetException e) {
                    return "throws " + e.getCause().getClass().getSimpleName();
                }
            }
        }
        return "no such call";
    }

    private static Object[] argumentsOf(String numbers) {
        List<Object> arguments = new ArrayList<>();
        for (String number : numbers.split(",")) {
            if (!number.isBlank()) {
                arguments.add(Integer.decode(number.strip()));
            }
        }
        return arguments.toArray();
    }

    /** Each call of the face is made on the page, and has its row in the table. */
    private static void dueWholeFace(String page) {
        for (Method method : GridColours.class.getDeclaredMethods()) {
            if (Modifier.isPublic(method.getModifiers())) {
                String name = method.getName();
                Check.due(name + " is called on the page", called.contains(name), true);
                Check.due(name + " is in the table", page.contains("\n| `" + name + "("), true);
            }
        }
    }
}
