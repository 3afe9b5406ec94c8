import java.io.IOException;
import java.lang.reflect.Method;
import java.lang.reflect.Modifier;
import java.nio.file.Files;
import java.nio.file.Path;
import java.util.regex.Matcher;
import java.util.regex.Pattern;

/** What README.md says of the class: the calls of its example answer so, and each call is named. */
public final class ReadmeTest {
    private static final Pattern CALL = Pattern.compile("^pane\\.(\\w+)\\(([^)]*)\\);\\s*// (-?\\d+)(?:[:;].*)?$");
    private static final Pattern TEXT = Pattern.compile("^for \\(char c : \"([^\"]+)\"\\.toCharArray\\(\\)\\) pane\\.feed\\(c\\);$");
    private static final int FEWEST_CALLS = 25;

    private final Due due = new Due("ReadmeTest");
    private final PaneAcross pane = new PaneAcross();
    private int calls;

    private ReadmeTest() {
    }

    public static void main(String[] args) throws IOException, ReflectiveOperationException {
        String source = System.getenv("PANE_SOURCE");
        Path file = Path.of(source == null ? "src/main/java/PaneAcross.java" : source);
        String page = Files.readString(file.resolveSibling("../../../README.md"));
        ReadmeTest test = new ReadmeTest();
        test.example(page);
        test.names(page);
        test.due.end();
    }

    private void example(String page) throws ReflectiveOperationException {
        for (String line : page.replaceFirst("(?s).*?```java\n", "").replaceFirst("(?s)```.*", "").split("\n")) {
            Matcher text = TEXT.matcher(line), call = CALL.matcher(line);
            if (text.matches()) for (char c : text.group(1).toCharArray()) pane.feed(c);
            else if (call.matches()) answers(line, call.group(1), call.group(2), Long.parseLong(call.group(3)));
            else due.isTrue("a call with its answer: " + line, line.isEmpty() || line.startsWith("//") || line.contains("= new "));
        }
        due.isTrue("the example has calls: " + calls, calls >= FEWEST_CALLS);
    }

    private void answers(String line, String name, String told, long want) throws ReflectiveOperationException {
        calls++;
        String[] words = told.isEmpty() ? new String[0] : told.split(", ");
        for (Method method : PaneAcross.class.getMethods()) {
            if (!method.getName().equals(name) || method.getParameterCount() != words.length) continue;
            Object[] given = new Object[words.length];
            for (int i = 0; i < words.length; i++) {
                if (method.getParameterTypes()[i] == long.class) given[i] = Long.valueOf(words[i]);
                else given[i] = Integer.valueOf(words[i]);
            }
            due.is(line, ((Number) method.invoke(pane, given)).longValue(), want);
            return;
        }
        due.isTrue("there is such a call: " + line, false);
    }

    private void names(String page) {
        for (Method method : PaneAcross.class.getDeclaredMethods()) {
            if (!Modifier.isPublic(method.getModifiers())) continue;
            due.isTrue("README.md names " + method.getName(), page.contains("`" + method.getName() + "`"));
        }
    }
}
