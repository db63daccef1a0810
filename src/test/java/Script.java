import java.lang.reflect.InvocationTargetException;
import java.lang.reflect.Method;
import java.util.HashMap;
import java.util.Map;
import java.util.regex.Matcher;
import java.util.regex.Pattern;

/**
 * Plays runs of calls that are written as in the document: "declareType(0,-1,0) = 0; undo() = 0". A call may be
 * told several times at once, "3 x typeCount() = 0", and a constant has its value, "NONE = -9".
 */
final class Script {
    private static final Pattern CALL = Pattern.compile("(?:(\\d+) x )?(\\w+)\\(([^)]*)\\)\\s*=\\s*(-?\\d+)");
    private static final Pattern CONSTANT = Pattern.compile("([A-Z_]+) = (-?\\d+)");
    private static final Map<String, Method> METHODS = new HashMap<>();

    static {
        for (Method method : SignatureChanger.class.getDeclaredMethods()) {
            METHODS.put(method.getName(), method);
        }
    }

    private String title;
    private final SignatureChanger changer = new SignatureChanger();
    private int calls = 0;

    private Script(String title) {
        this.title = title;
    }

    /** Plays the calls on a new object. */
    static Script play(String title, String... calls) {
        return new Script(title).then(calls);
    }

    /** Plays more calls on the same object. */
    Script then(String... calls) {
        for (String row : calls) {
            for (String call : row.split(";")) {
                if (!call.isBlank()) {
                    read(call.trim());
                }
            }
        }
        return this;
    }

    /** Plays the same call several times. */
    Script times(int count, String call) {
        return then(count + " x " + call);
    }

    /** Gives the calls that follow another title. */
    Script as(String newTitle) {
        title = newTitle;
        return this;
    }

    private void read(String text) {
        Matcher constant = CONSTANT.matcher(text);
        Matcher call = CALL.matcher(text);
        if (constant.matches()) {
            Due.is(title + ": " + constant.group(1), Integer.parseInt(constant.group(2)), valueOf(constant.group(1)));
        } else if (call.matches()) {
            int count = call.group(1) == null ? 1 : Integer.parseInt(call.group(1));
            for (int i = 0; i < count; i++) {
                check(call.group(2), call.group(3), Integer.parseInt(call.group(4)));
            }
        } else {
            throw new IllegalArgumentException(title + ": no call: " + text);
        }
    }

    private void check(String name, String list, int due) {
        calls++;
        Due.is(title + ": call " + calls + ", " + name + "(" + list + ")", due, answer(name, list));
        Due.holds(title + ": an object is used for at most 512 calls", calls <= 512);
    }

    private static int valueOf(String constant) {
        try {
            return SignatureChanger.class.getField(constant).getInt(null);
        } catch (ReflectiveOperationException missing) {
            throw new IllegalStateException("no constant " + constant, missing);
        }
    }

    private int answer(String name, String list) {
        String[] texts = list.isBlank() ? new String[0] : list.split(",");
        Object[] arguments = new Object[texts.length];
        for (int i = 0; i < texts.length; i++) {
            arguments[i] = Integer.valueOf(texts[i].trim());
        }
        return invoke(changer, name, arguments);
    }

    /** The answer of a method that is found by its name. */
    static int invoke(SignatureChanger changer, String name, Object... arguments) {
        try {
            return (Integer) METHODS.get(name).invoke(changer, arguments);
        } catch (InvocationTargetException thrown) {
            throw new IllegalStateException(name + " threw", thrown.getCause());
        } catch (IllegalAccessException thrown) {
            throw new IllegalStateException(name + " is not public", thrown);
        }
    }
}
