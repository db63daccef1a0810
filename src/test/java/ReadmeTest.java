import java.io.IOException;
import java.lang.reflect.Method;
import java.lang.reflect.Modifier;
import java.nio.file.Files;
import java.nio.file.Path;
import java.util.regex.Matcher;
import java.util.regex.Pattern;

/** README.md shows a run with the answers that are due, and names every method with its arguments. */
public final class ReadmeTest {
    private static final Pattern CALL = Pattern.compile("changer\\.(\\w+\\([^)]*\\)); *// (-?\\d+)");
    private static final Pattern NAMED = Pattern.compile("`(\\w+)\\(([\\w, ]*)\\)`");

    public static void main(String[] arguments) throws IOException {
        String text = Files.readString(Path.of("README.md"));
        example(text);
        names(text);
        Due.end();
    }

    private static void example(String text) {
        Script script = Script.play("the example of README.md");
        Matcher call = CALL.matcher(text);
        int calls = 0;
        while (call.find()) {
            script.then(call.group(1) + " = " + call.group(2));
            calls++;
        }
        Due.is("calls in README.md that tell their answer", text.split("\nchanger\\.", -1).length - 1, calls);
        Due.holds("README.md has an example", calls > 0);
    }

    private static void names(String text) {
        for (Method method : SignatureChanger.class.getDeclaredMethods()) {
            if (Modifier.isPublic(method.getModifiers())) {
                Due.holds("README.md names " + method, isNamed(text, method));
            }
        }
    }

    private static boolean isNamed(String text, Method method) {
        Matcher named = NAMED.matcher(text);
        while (named.find()) {
            int count = named.group(2).isEmpty() ? 0 : named.group(2).split(",").length;
            if (named.group(1).equals(method.getName()) && count == method.getParameterCount()) {
                return true;
            }
        }
        return false;
    }
}
