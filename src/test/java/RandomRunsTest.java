import java.lang.reflect.Method;
import java.util.Arrays;
import java.util.HashMap;
import java.util.Map;
import java.util.TreeMap;

/**
 * Long runs of calls, always the same ones, each call answered as by the reference. Every call comes
 * often to every kind of answer that it can give.
 */
public final class RandomRunsTest {
    private static final int RUNS = 6000;
    private static final int CALLS = 512;
    private static final int OFTEN = 50;

    private static final Map<String, Method> OF_REFERENCE = new HashMap<>();
    private static final Map<String, Integer> SEEN = new TreeMap<>();

    public static void main(String[] arguments) throws ReflectiveOperationException {
        for (Method method : Reference.class.getDeclaredMethods()) {
            OF_REFERENCE.put(method.getName(), method);
        }
        for (int run = 0; run < RUNS; run++) {
            play(run);
        }
        if (arguments.length > 0) {
            System.out.println(SEEN);
        }
        everyAnswerWasSeen();
        Due.end();
    }

    private static void play(int run) throws ReflectiveOperationException {
        SignatureChanger changer = new SignatureChanger();
        Reference reference = new Reference();
        Planner planner = new Planner(run, reference);
        StringBuilder played = new StringBuilder();
        for (int call = 0; call < CALLS; call++) {
            Planner.Step step = planner.next();
            int answer = Script.invoke(changer, step.name(), step.values());
            int due = (Integer) OF_REFERENCE.get(step.name()).invoke(reference, step.values());
            String text = step.name() + Arrays.toString(step.values()).replace('[', '(').replace(']', ')');
            SEEN.merge(kindOf(step.name(), due), 1, Integer::sum);
            if (answer != due) {
                Due.is("run " + run + " of random calls: " + played + text, due, answer);
                return;
            }
            played.append(text).append(" = ").append(due).append("; ");
        }
    }

    private static String kindOf(String name, int due) {
        boolean error = due < 0 && !name.equals("run");
        return name + " " + (error ? String.valueOf(due) : due == 0 ? "0" : "more");
    }

    /** A comparison that never comes to an answer proves nothing about it. */
    private static void everyAnswerWasSeen() {
        String[] due = {
            "declareType 0,more,-1,-2,-3", "declareMethod 0,more,-1,-2,-3", "declareCall 0,more,-1,-2,-3", "setArgument 0,more,-1,-2", "setFrozen 0,more,-1,-2",
            "typeCount 0,more", "isSubtype 0,more,-1", "family more,-1", "parameterCount 0,more,-1", "parameterKey 0,more,-1", "dispatch 0,more,-1", "run 0,more",
            "ticks 0,more,-1", "argumentCount 0,more,-1", "argumentKind 0,more,-1", "temporaryCount 0,more,-1", "startChange more,-1", "keepParameter more,-1,-2,-3",
            "insertParameter 0,more,-1,-2,-3", "clashingMethod 0,more,-2,-9", "hoistedArguments 0,more,-1,-2", "bridgeTypes 0,more,-2", "applyChange 0,more,-2,-3", "undo 0,more,-2"};
        for (String row : due) {
            String name = row.substring(0, row.indexOf(' '));
            for (String answer : row.substring(name.length() + 1).split(",")) {
                int times = SEEN.getOrDefault(name + " " + answer, 0);
                Due.holds(name + " answers " + answer + " often, but it did so " + times + " times", times >= OFTEN);
            }
        }
    }
}
