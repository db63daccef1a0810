import java.lang.reflect.InvocationTargetException;
import java.lang.reflect.Method;
import java.util.HashMap;
import java.util.Map;
import java.util.regex.Matcher;
import java.util.regex.Pattern;

/** Plays runs of calls that are written as in the document: "declareType(0,-1,0) = 0; undo() = 0". */
final class Script {
    private static final Pattern CALL = Pattern.compile("\\s*(\\w+)\\(([^)]*)\\)\\s*=\\s*(-?\\d+)\\s*");
    private static final Map<String, Method> METHODS = new HashMap<>();

    static {
        for (Method method : SignatureChanger.class.getDeclaredMethods()) {
            METHODS.put(method.getName(), method);
        }
    }

    private final String title;
    private final SignatureChanger changer = new SignatureChanger();

    private Script(String title) {
        this.title = title;
    }

    /** Plays the calls on a new object. */
    static Script play(String title, String... calls) {
        return new Script(title).then(calls);
    }

    /** Plays more calls on the same object. */
    Script then(String... calls) {
        for (String row : calls) {
            for (String call : row.split(";")) {
                if (!call.isBlank()) {
                    check(call);
                }
            }
        }
        return this;
    }

    /** Plays the same call several times. */
    Script times(int count, String call) {
        for (int i = 0; i < count; i++) {
            check(call);
        }
        return this;
    }

    private void check(String text) {
        Matcher call = CALL.matcher(text);
        if (!call.matches()) {
            throw new IllegalArgumentException("no call: " + text);
        }
        int due = Integer.parseInt(call.group(3));
        Due.is(title + ": " + call.group(1) + "(" + call.group(2) + ")", due, answer(call.group(1), call.group(2)));
    }

    private int answer(String name, String list) {
        String[] texts = list.isBlank() ? new String[0] : list.split(",");
        Object[] arguments = new Object[texts.length];
        for (int i = 0; i < texts.length; i++) {
            arguments[i] = Integer.valueOf(texts[i].trim());
        }
        return invoke(changer, name, arguments);
    }

    /** The answer of a method that is found by its name. */
    static int invoke(SignatureChanger changer, String name, Object... arguments) {
        try {
            return (Integer) METHODS.get(name).invoke(changer, arguments);
        } catch (InvocationTargetException thrown) {
            throw new IllegalStateException(name + " threw", thrown.getCause());
        } catch (IllegalAccessException thrown) {
            throw new IllegalStateException(name + " is not public", thrown);
        }
    }
}
