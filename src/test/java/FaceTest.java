import java.io.IOException;
import java.lang.reflect.Constructor;
import java.lang.reflect.Field;
import java.lang.reflect.Member;
import java.lang.reflect.Method;
import java.lang.reflect.Modifier;
import java.nio.file.Files;
import java.nio.file.Path;
import java.util.Arrays;
import java.util.Set;
import java.util.TreeSet;
import java.util.regex.Matcher;
import java.util.regex.Pattern;

/** The public face is the document's, and the file keeps to those rules of LANGUAGE.md that a text shows. */
public final class FaceTest {
    private static final String[] FACE = {
        "INVALID_ARGUMENT", "INVALID_STATE", "LIMIT_REACHED", "NONE", "new()", "declareType(III)", "declareMethod(III)", "declareCall(IIII)",
        "setArgument(IIII)", "setFrozen(II)", "typeCount()", "isSubtype(II)", "family(I)", "parameterCount(I)", "parameterKey(II)", "dispatch(I)",
        "run(I)", "ticks(I)", "argumentCount(I)", "argumentKind(II)", "temporaryCount(I)", "startChange(I)", "keepParameter(I)", "insertParameter(I)",
        "clashingMethod()", "hoistedArguments(I)", "bridgeTypes()", "applyChange()", "undo()"};
    private static final String FORBIDDEN =
        "\\b(throw|throws|try|catch|finally|synchronized|assert|import|package|double|float|Object|Random|Thread|Math\\.\\w+Exact|currentTimeMillis|nanoTime|hashCode|toString)\\b|->|::|@";

    public static void main(String[] arguments) throws IOException {
        face();
        nested();
        noThrowingWords();
        Due.end();
    }

    private static void face() {
        Class<?> changer = SignatureChanger.class;
        Due.holds("public and final", Modifier.isPublic(changer.getModifiers()) && Modifier.isFinal(changer.getModifiers()));
        Set<String> found = new TreeSet<>();
        Set<String> privateNames = new TreeSet<>();
        Set<String> publicNames = new TreeSet<>();
        for (Field field : changer.getDeclaredFields()) {
            boolean constant = Modifier.isStatic(field.getModifiers()) && Modifier.isFinal(field.getModifiers()) && field.getType() == int.class;
            Due.holds(field + " is private or a constant", Modifier.isPrivate(field.getModifiers()) || constant && Modifier.isPublic(field.getModifiers()));
            addIfSeen(found, field, field.getName());
        }
        for (Method method : changer.getDeclaredMethods()) {
            addIfSeen(found, method, method.getName() + list(method.getParameterTypes()));
            (Modifier.isPrivate(method.getModifiers()) ? privateNames : publicNames).add(method.getName());
        }
        for (Constructor<?> constructor : changer.getDeclaredConstructors()) {
            addIfSeen(found, constructor, "new" + list(constructor.getParameterTypes()));
        }
        Due.holds("the face is the document's: " + found, found.equals(new TreeSet<>(Arrays.asList(FACE))));
        privateNames.retainAll(publicNames);
        Due.holds("no private method bears a public name: " + privateNames, privateNames.isEmpty());
    }

    private static void addIfSeen(Set<String> found, Member member, String text) {
        if (!Modifier.isPrivate(member.getModifiers())) {
            found.add(text);
        }
    }

    private static String list(Class<?>[] types) {
        StringBuilder text = new StringBuilder("(");
        for (Class<?> type : types) {
            text.append(type == int.class ? "I" : type.getName());
        }
        return text.append(')').toString();
    }

    private static void nested() {
        Class<?>[] classes = SignatureChanger.class.getDeclaredClasses();
        Due.holds("at most twelve classes", classes.length < 12);
        for (Class<?> inside : classes) {
            int modifiers = inside.getModifiers();
            Due.holds(inside + " is static and not public", Modifier.isStatic(modifiers) && !Modifier.isPublic(modifiers) && !Modifier.isProtected(modifiers));
            Due.holds(inside + " has at most twenty fields", inside.getDeclaredFields().length <= 20);
            for (Field field : inside.getDeclaredFields()) {
                Due.holds(field + " is no static state", !Modifier.isStatic(field.getModifiers()));
            }
        }
    }

    private static void noThrowingWords() throws IOException {
        String source = Files.readString(Path.of("src/main/java/SignatureChanger.java"));
        String code = source.replaceAll("(?s)/\\*.*?\\*/", "").replaceAll("//[^\n]*", "");
        Matcher word = Pattern.compile(FORBIDDEN).matcher(code);
        while (word.find()) {
            Due.holds("no " + word.group() + " in the program", false);
        }
    }
}
