import java.util.ArrayDeque;
import java.util.ArrayList;
import java.util.Deque;
import java.util.List;

/**
 * Chooses the calls of a long run by a small generator of numbers, always the same ones for the same
 * seed. It looks at the state that the reference tells, so that most calls succeed and whole changes
 * are made, and mixes in calls that do not fit and wild arguments.
 */
final class Planner {
    /** A call: the name of the method and its arguments. */
    record Step(String name, Object[] values) { }

    private static final int[] WILD = {Integer.MIN_VALUE, Integer.MAX_VALUE, -1, -2, -9, -3, 0, 1, 2, 3, 5, 6, 7, 8, 9, 15, 16, 17, 31, 32, 33, 64, 99, 100, -99, -100, 255, 256, 1 << 30, 65536};
    private static final String[] NAMES = {"declareType", "declareMethod", "declareCall", "setArgument", "setFrozen", "isSubtype", "parameterKey", "argumentKind", "family", "dispatch", "run", "ticks", "hoistedArguments", "keepParameter", "insertParameter", "startChange", "undo", "applyChange", "clashingMethod", "bridgeTypes", "typeCount", "parameterCount", "argumentCount", "temporaryCount"};

    private final Reference state;
    private final Deque<Step> plan = new ArrayDeque<>();
    private final int names;
    private final int arity;
    private final int types;
    private final int methods;
    private final int undos;
    private final int removals;
    private final boolean freezes;
    private final boolean wild;
    private long numbers;

    Planner(int seed, Reference state) {
        this.state = state;
        numbers = seed * 7919L + 1;
        names = 1 + below(2);
        arity = 1 + below(4);
        types = 3 + below(6);
        methods = 2 + below(once(4) ? 16 : 5);
        undos = below(4);
        removals = 2 + below(5);
        freezes = below(3) != 0;
        wild = below(8) == 0;
        planQuestions();
    }

    private int below(int bound) {
        numbers = numbers * 6364136223846793005L + 1442695040888963407L;
        return (int) ((numbers >>> 33) % bound);
    }

    private boolean once(int in) {
        return below(in) == 0;
    }

    Step next() {
        if (once(wild ? 4 : 80)) {
            return wildStep();
        }
        for (int attempt = 0; attempt < 1000 && plan.isEmpty(); attempt++) {
            makePlan();
        }
        return plan.isEmpty() ? new Step("typeCount", new Object[0]) : plan.removeFirst();
    }

    private void add(String name, Object... values) {
        plan.addLast(new Step(name, values));
    }

    private Step wildStep() {
        String name = NAMES[below(NAMES.length)];
        Object[] values = new Object[arityOf(name)];
        for (int i = 0; i < values.length; i++) {
            values[i] = once(3) ? WILD[below(WILD.length)] : below(6);
        }
        return new Step(name, values);
    }

    private static int arityOf(String name) {
        return switch (name) {
            case "declareType", "declareMethod" -> 3;
            case "declareCall", "setArgument" -> 4;
            case "setFrozen", "isSubtype", "parameterKey", "argumentKind" -> 2;
            case "undo", "applyChange", "clashingMethod", "bridgeTypes", "typeCount" -> 0;
            default -> 1;
        };
    }

    private void makePlan() {
        int choice = below(100);
        boolean young = state.typeCount() < types || state.methodCount() < methods;
        if (young && choice < 80) {
            planType();
            planMethod();
        } else if (choice < 5) {
            planMethod();
        } else if (choice < 7) {
            planType();
        } else if (choice < 25) {
            planCall();
        } else if (choice < 60) {
            planArguments();
        } else if (choice < 63) {
            add("setFrozen", below(state.callCount() + 1), freezes ? below(2) : 0);
        } else if (choice < 64 + undos) {
            planUndo();
        } else if (choice < 71) {
            planQuestions();
        } else if (choice < 74) {
            planTemporaries();
        } else {
            planChange();
        }
    }

    /** Changes that take all arguments away, so that the ticks of a call pile up as temporaries. */
    private void planTemporaries() {
        if (state.callCount() == 0) {
            return;
        }
        int call = below(state.callCount());
        add("setFrozen", call, 0);
        for (int change = 0; change < 3; change++) {
            for (int index = 0; index < 5; index++) {
                add("setArgument", call, index, once(5) ? 1 : 2, 0);
            }
            add("startChange", state.targetOf(call));
            for (int index = once(3) ? 1 : 0; index < 5; index++) {
                add("insertParameter", below(199) - 99);
            }
            add("hoistedArguments", call);
            add("applyChange");
            add("temporaryCount", call);
            add("ticks", call);
        }
    }

    private void planType() {
        int isInterface = below(2);
        int superclass = -1;
        int interfaces = 0;
        for (int type = 0; type < state.typeCount(); type++) {
            if (state.isClass(type) && once(2) && isInterface == 0) {
                superclass = type;
            }
            if (once(3)) {
                interfaces |= 1 << type;
            }
        }
        if (!once(20)) {
            interfaces &= state.interfaceSet();
        }
        add("declareType", isInterface, superclass, interfaces);
        add("isSubtype", state.typeCount(), below(8));
        add("family", below(state.methodCount() + 1));
    }

    private void planMethod() {
        int size = once(2) ? arity : below(6);
        if (once(3) && state.methodCount() > 0) {
            size = state.parameterCount(below(state.methodCount()));
        }
        add("declareMethod", below(state.typeCount() + 1), below(names), size);
        add("family", state.methodCount());
        add("parameterKey", state.methodCount(), below(5));
        add("parameterKey", state.methodCount(), 0);
    }

    /** A call that fits some method, as far as a few tries find one. */
    private void planCall() {
        if (state.methodCount() == 0) {
            return;
        }
        for (int attempt = 0; attempt < 30; attempt++) {
            int method = below(state.methodCount());
            int staticType = below(state.typeCount());
            int dynamicType = below(state.typeCount());
            boolean fits = state.isSubtype(staticType, state.typeOf(method)) == 1
                && state.isSubtype(dynamicType, staticType) == 1 && state.isClass(dynamicType);
            if (fits || once(60)) {
                add("declareCall", staticType, dynamicType, state.nameOf(method), state.parameterCount(method));
                add("dispatch", state.callCount());
                add("run", state.callCount());
                return;
            }
        }
    }

    private void planArguments() {
        int call = below(state.callCount() + 1);
        int count = Math.max(state.argumentCount(call), 1);
        for (int index = 0; index < count; index++) {
            int kind = once(5) ? 0 : 1 + below(2);
            if (!once(6)) {
                add("setArgument", call, index, kind, kind == 0 ? below(199) - 99 : 0);
            }
        }
        add("run", call);
        add("ticks", call);
    }

    private void planUndo() {
        int count = once(4) ? 9 : 1 + below(3);
        for (int i = 0; i < count; i++) {
            add("undo");
        }
        planQuestions();
    }

    private void planQuestions() {
        for (int call = 0; call < state.callCount(); call++) {
            String[] questions = {"run", "ticks", "dispatch", "argumentCount", "temporaryCount"};
            add(questions[below(questions.length)], call);
            add("argumentKind", call, below(5));
        }
        int method = below(state.methodCount() + 1);
        add("typeCount");
        add("parameterCount", method);
        add("parameterKey", method, below(5));
    }

    private void planChange() {
        if (state.methodCount() == 0) {
            return;
        }
        boolean called = state.callCount() > 0 && !once(4);
        int method = called ? state.targetOf(below(state.callCount())) : below(state.methodCount());
        add("startChange", method);
        planEntries(state.parameterCount(method));
        add("clashingMethod");
        add("bridgeTypes");
        for (int call = 0; call < state.callCount(); call++) {
            if (once(2)) {
                add("hoistedArguments", call);
            }
        }
        if (!once(6)) {
            add("applyChange");
        }
        planQuestions();
        add("run", below(state.callCount() + 1));
    }

    private void planEntries(int oldCount) {
        List<Integer> kept = new ArrayList<>();
        for (int index = 0; index < oldCount; index++) {
            if (!once(removals)) {
                kept.add(once(2) ? kept.size() : below(kept.size() + 1), Integer.valueOf(index));
            }
        }
        int inserted = once(3) ? 0 : once(2) ? below(3) : 5 - kept.size();
        for (int index : kept) {
            if (inserted > 0 && once(3)) {
                inserted--;
                add("insertParameter", below(199) - 99);
            }
            add("keepParameter", index);
        }
        for (int i = 0; i < inserted; i++) {
            add("insertParameter", once(3) ? 0 : below(205) - 102);
        }
        if (once(10)) {
            add("keepParameter", below(6));
        }
    }
}
