import java.lang.reflect.Method;
import java.nio.file.Files;
import java.nio.file.Path;
import java.util.regex.Matcher;
import java.util.regex.Pattern;

/** The examples in README.md: every call is made, and the first word after // is what the line's last call is due to answer. */
public final class ReadmeTest {
    private static final String NEW_OBJECT = "PageRenderer page = new PageRenderer();";
    private static final Pattern LINE = Pattern.compile("((?:page\\.\\w+\\([-0-9, ]*\\);\\s*)+)//\\s*(-?\\w+).*");
    private static final Pattern CALL = Pattern.compile("page\\.(\\w+)\\(([-0-9, ]*)\\);");

    private PageRenderer page;

    public static void main(String[] args) throws Exception {
        ReadmeTest test = new ReadmeTest();
        boolean inExample = false;
        for (String line : Files.readAllLines(Path.of("README.md"))) {
            if (line.startsWith("```")) {
                inExample = line.equals("```java");
            } else if (inExample) {
                test.line(line);
            }
        }
        Check.finish("ReadmeTest");
    }

    private void line(String line) throws Exception {
        if (line.equals(NEW_OBJECT)) {
            page = new PageRenderer();
            return;
        }
        Matcher whole = LINE.matcher(line);
        Check.due("can be read: " + line, whole.matches(), true);
        Matcher call = CALL.matcher(whole.group(1));
        String answer = "";
        while (call.find()) {
            answer = answerOf(call.group(1), call.group(2));
        }
        Check.due(line + " (it answers " + answer + ")", answer.equals(whole.group(2)), true);
    }

    private String answerOf(String name, String arguments) throws Exception {
        String[] words = arguments.isBlank() ? new String[0] : arguments.split(",");
        Object[] numbers = new Object[words.length];
        Class<?>[] types = new Class<?>[words.length];
        for (int n = 0; n < words.length; n++) {
            numbers[n] = Integer.valueOf(words[n].trim());
            types[n] = int.class;
        }
        Method method = PageRenderer.class.getMethod(name, types);
        return String.valueOf(method.invoke(page, numbers));
    }
}
