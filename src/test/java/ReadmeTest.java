import java.io.IOException;
import java.lang.reflect.InvocationTargetException;
import java.lang.reflect.Method;
import java.nio.file.Files;
import java.nio.file.Path;
import java.util.ArrayList;
import java.util.List;
import java.util.regex.Matcher;
import java.util.regex.Pattern;
import java.util.stream.Stream;

/** What README.md says: its example answers as it tells, its text is a chapel, it names every call and every test. */
public final class ReadmeTest {
    private static final Pattern CALL = Pattern.compile("x\\.(\\w+)\\((.*?)\\);\\s*// (throws \\w+|true|false|-?\\d+|keeps)\\b.*");
    private static final Due due = new Due();

    public static void main(String[] args) throws IOException, ReflectiveOperationException {
        String page = Files.readString(Path.of("README.md"));
        example(block(page, "java"));
        text(block(page, "text"));
        calls(page);
        tests(page);
        due.end("ReadmeTest");
    }

    private static String block(String page, String kind) {
        Matcher block = Pattern.compile("(?s)```" + kind + "\n(.*?)```").matcher(page);
        return block.find() ? block.group(1) : "";
    }

    private static void example(String block) throws ReflectiveOperationException {
        String[] lines = block.split("\n");
        due.is("the example makes an object", lines[0].equals("JuniorPews x = new JuniorPews();"), true);
        due.is("the example has calls", lines.length > 20, true);
        JuniorPews x = new JuniorPews();
        for (int i = 1; i < lines.length; i++) {
            Matcher call = CALL.matcher(lines[i]);
            if (call.matches()) {
                String want = call.group(3).equals("keeps") ? "null" : call.group(3);
                String got = answer(x, call.group(1), call.group(2));
                due.is(lines[i] + " (" + got + ")", got.equals(want), true);
            } else {
                due.tellWrong("a line of the example is no call with its answer: " + lines[i]);
            }
        }
    }

    private static String answer(JuniorPews x, String name, String list) throws ReflectiveOperationException {
        List<Object> arguments = new ArrayList<>();
        for (String one : list.isEmpty() ? new String[0] : list.split(", ")) {
            arguments.add(Integer.decode(one));
        }
        Class<?>[] takes = new Class<?>[arguments.size()];
        java.util.Arrays.fill(takes, int.class);
        try {
            return "" + JuniorPews.class.getMethod(name, takes).invoke(x, arguments.toArray());
        } catch (InvocationTargetException e) {
            return "throws " + e.getCause().getClass().getSimpleName();
        }
    }

    private static void text(String block) {
        JuniorPews x = new JuniorPews();
        due.is("the text has a fault", Tape.tell(x, block), 0);
        due.are("people and seats of the text", x::count, 2, 3);
        due.are("order of the text", x::order, 0, 1, -1);
    }

    private static void calls(String page) {
        String table = page.substring(page.indexOf("### Calls"), page.indexOf("## How to run"));
        for (Method method : JuniorPews.class.getDeclaredMethods()) {
            if (java.lang.reflect.Modifier.isPublic(method.getModifiers())) {
                due.is("the page names " + method.getName(), table.contains("`" + method.getName() + "`"), true);
            }
        }
    }

    private static void tests(String page) throws IOException {
        String list = page.substring(page.indexOf("## How to run"));
        try (Stream<Path> files = Files.list(Path.of("src/test/java"))) {
            for (Path file : files.sorted().toList()) {
                String name = file.getFileName().toString().replace(".java", "");
                if (name.endsWith("Test")) {
                    due.is("the page names " + name, list.contains("`" + name + "`"), true);
                }
            }
        }
    }
}
