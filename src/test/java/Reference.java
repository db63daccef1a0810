import java.util.ArrayDeque;
import java.util.ArrayList;
import java.util.Deque;
import java.util.HashMap;
import java.util.List;
import java.util.Map;
import java.util.Set;
import java.util.TreeSet;

/**
 * The document once more, as plainly as the Java library allows and without regard to rooms and limits,
 * to compare the program with. Every edit puts a whole new state in place of the old one.
 */
final class Reference {
    private static final int BAD_ARGUMENT = -1;
    private static final int BAD_STATE = -2;
    private static final int FULL = -3;
    private static final int NOTHING = -9;

    private record Type(boolean isInterface, int superclass, Set<Integer> interfaces) { }

    private record Parameter(int key, int defaultValue) { }

    private record Method(int type, int name, List<Parameter> list) { }

    private record Expression(int kind, int value) {
        boolean counts() {
            return kind == 1 || kind == 2;
        }

        boolean conflictsWith(Expression other) {
            return counts() && other.counts() && (kind == 2 || other.kind == 2);
        }
    }

    private record Call(int staticType, int dynamicType, int target, boolean frozen, List<Integer> keys, List<Expression> arguments, List<Expression> temporaries) { }

    private record State(List<Type> types, List<Method> methods, List<Call> calls) {
        State copy() {
            return new State(new ArrayList<>(types), new ArrayList<>(methods), new ArrayList<>(calls));
        }
    }

    /** An entry: the old index, or -1, and the parameter. */
    private record Entry(int old, Parameter parameter) { }

    private State now = new State(new ArrayList<>(), new ArrayList<>(), new ArrayList<>());
    private final Deque<State> before = new ArrayDeque<>();
    private int changed = -1;
    private List<Entry> entries = new ArrayList<>();

    private void edit() {
        before.addLast(now);
        if (before.size() > 8) {
            before.removeFirst();
        }
        now = now.copy();
        changed = -1;
    }

    private static boolean within(int number, int low, int high) {
        return number >= low && number <= high;
    }

    private boolean isType(int type) {
        return within(type, 0, now.types.size() - 1);
    }

    private boolean isMethod(int method) {
        return within(method, 0, now.methods.size() - 1);
    }

    private boolean isCall(int call) {
        return within(call, 0, now.calls.size() - 1);
    }

    // What the document's face does not tell, for those who choose calls that are likely to succeed.

    int methodCount() {
        return now.methods.size();
    }

    int callCount() {
        return now.calls.size();
    }

    boolean isClass(int type) {
        return isType(type) && !now.types.get(type).isInterface;
    }

    int interfaceSet() {
        int set = 0;
        for (int type = 0; type < now.types.size(); type++) {
            set |= now.types.get(type).isInterface ? 1 << type : 0;
        }
        return set;
    }

    int typeOf(int method) {
        return now.methods.get(method).type;
    }

    int nameOf(int method) {
        return now.methods.get(method).name;
    }

    int targetOf(int call) {
        return now.calls.get(call).target;
    }

    private static boolean below(List<Type> types, int one, int other) {
        if (one == other) {
            return true;
        }
        Type type = types.get(one);
        if (type.superclass >= 0 && below(types, type.superclass, other)) {
            return true;
        }
        for (int above : type.interfaces) {
            if (below(types, above, other)) {
                return true;
            }
        }
        return false;
    }

    private static boolean connected(List<Type> types, int one, int other) {
        for (int type = 0; type < types.size(); type++) {
            if (below(types, type, one) && below(types, type, other)) {
                return true;
            }
        }
        return false;
    }

    private static boolean sameSignature(Method one, Method other) {
        return one.name == other.name && one.list.size() == other.list.size();
    }

    int declareType(int isInterface, int superclass, int interfaces) {
        if (!within(isInterface, 0, 1) || !within(superclass, -1, now.types.size() - 1)) {
            return BAD_ARGUMENT;
        }
        if (superclass >= 0 && (isInterface == 1 || now.types.get(superclass).isInterface)) {
            return BAD_ARGUMENT;
        }
        Set<Integer> set = new TreeSet<>();
        for (int bit = 0; bit < 32; bit++) {
            if ((interfaces >>> bit) % 2 != 0) {
                if (!isType(bit) || !now.types.get(bit).isInterface) {
                    return BAD_ARGUMENT;
                }
                set.add(bit);
            }
        }
        List<Type> types = new ArrayList<>(now.types);
        types.add(new Type(isInterface == 1, superclass, set));
        for (Method one : now.methods) {
            for (Method other : now.methods) {
                if (sameSignature(one, other) && !one.list.equals(other.list) && connected(types, one.type, other.type)) {
                    return BAD_STATE;
                }
            }
        }
        if (now.types.size() == 8) {
            return FULL;
        }
        edit();
        now.types.add(types.get(types.size() - 1));
        return now.types.size() - 1;
    }

    int declareMethod(int type, int name, int arity) {
        if (!isType(type) || !within(name, 0, 5) || !within(arity, 0, 5)) {
            return BAD_ARGUMENT;
        }
        Set<List<Parameter>> lists = new java.util.HashSet<>();
        for (Method method : now.methods) {
            if (method.name == name && method.list.size() == arity) {
                if (method.type == type) {
                    return BAD_STATE;
                }
                if (connected(now.types, method.type, type)) {
                    lists.add(method.list);
                }
            }
        }
        if (lists.size() > 1) {
            return BAD_STATE;
        }
        if (now.methods.size() == 16) {
            return FULL;
        }
        List<Parameter> list = new ArrayList<>();
        for (int key = 0; key < arity; key++) {
            list.add(new Parameter(key, 0));
        }
        edit();
        now.methods.add(new Method(type, name, lists.isEmpty() ? list : lists.iterator().next()));
        return now.methods.size() - 1;
    }

    private static List<Integer> keys(List<Parameter> list) {
        List<Integer> keys = new ArrayList<>();
        for (Parameter parameter : list) {
            keys.add(parameter.key);
        }
        return keys;
    }

    int declareCall(int staticType, int dynamicType, int name, int arity) {
        if (!isType(staticType) || !isType(dynamicType) || !within(name, 0, 5) || !within(arity, 0, 5)) {
            return BAD_ARGUMENT;
        }
        if (now.types.get(dynamicType).isInterface || !below(now.types, dynamicType, staticType)) {
            return BAD_STATE;
        }
        for (int target = 0; target < now.methods.size(); target++) {
            Method method = now.methods.get(target);
            if (method.name == name && method.list.size() == arity && below(now.types, staticType, method.type)) {
                if (now.calls.size() == 8) {
                    return FULL;
                }
                List<Expression> arguments = new ArrayList<>();
                for (int i = 0; i < arity; i++) {
                    arguments.add(new Expression(0, 0));
                }
                edit();
                now.calls.add(new Call(staticType, dynamicType, target, false, keys(method.list), arguments, List.of()));
                return now.calls.size() - 1;
            }
        }
        return BAD_STATE;
    }

    int setArgument(int call, int index, int kind, int value) {
        if (argumentKind(call, index) < 0 || !within(kind, 0, 2) || !within(value, -99, 99) || (kind != 0 && value != 0)) {
            return BAD_ARGUMENT;
        }
        Call old = now.calls.get(call);
        int previous = old.arguments.get(index).kind;
        if (old.frozen || previous == 3) {
            return BAD_STATE;
        }
        List<Expression> arguments = new ArrayList<>(old.arguments);
        arguments.set(index, new Expression(kind, value));
        edit();
        now.calls.set(call, new Call(old.staticType, old.dynamicType, old.target, false, old.keys, arguments, old.temporaries));
        return previous;
    }

    int setFrozen(int call, int frozen) {
        if (!isCall(call) || !within(frozen, 0, 1)) {
            return BAD_ARGUMENT;
        }
        Call old = now.calls.get(call);
        if (old.frozen == (frozen == 1)) {
            return BAD_STATE;
        }
        if (frozen == 0 && !old.keys.equals(keys(now.methods.get(old.target).list))) {
            return BAD_STATE;
        }
        edit();
        now.calls.set(call, new Call(old.staticType, old.dynamicType, old.target, frozen == 1, old.keys, old.arguments, old.temporaries));
        int count = 0;
        for (Call one : now.calls) {
            count += one.frozen ? 1 : 0;
        }
        return count;
    }

    int typeCount() {
        return now.types.size();
    }

    int isSubtype(int one, int other) {
        if (!isType(one) || !isType(other)) {
            return BAD_ARGUMENT;
        }
        return below(now.types, one, other) ? 1 : 0;
    }

    private Set<Integer> familyOf(int method) {
        Set<Integer> family = new TreeSet<>(Set.of(method));
        for (boolean grown = true; grown;) {
            grown = false;
            for (int other = 0; other < now.methods.size(); other++) {
                for (int member : new ArrayList<>(family)) {
                    Method one = now.methods.get(member);
                    Method two = now.methods.get(other);
                    if (sameSignature(one, two) && connected(now.types, one.type, two.type)) {
                        grown |= family.add(other);
                    }
                }
            }
        }
        return family;
    }

    private static int bits(Iterable<Integer> set) {
        int bits = 0;
        for (int number : set) {
            bits |= 1 << number;
        }
        return bits;
    }

    int family(int method) {
        return isMethod(method) ? bits(familyOf(method)) : BAD_ARGUMENT;
    }

    int parameterCount(int method) {
        return isMethod(method) ? now.methods.get(method).list.size() : BAD_ARGUMENT;
    }

    int parameterKey(int method, int index) {
        if (!isMethod(method) || !within(index, 0, now.methods.get(method).list.size() - 1)) {
            return BAD_ARGUMENT;
        }
        return now.methods.get(method).list.get(index).key;
    }

    int dispatch(int call) {
        if (!isCall(call)) {
            return BAD_ARGUMENT;
        }
        Method wanted = now.methods.get(now.calls.get(call).target);
        int dynamicType = now.calls.get(call).dynamicType;
        Map<Integer, Integer> declared = new HashMap<>();
        for (int method = 0; method < now.methods.size(); method++) {
            if (sameSignature(wanted, now.methods.get(method))) {
                declared.put(now.methods.get(method).type, method);
            }
        }
        for (int type = dynamicType; type >= 0; type = now.types.get(type).superclass) {
            if (declared.containsKey(type)) {
                return declared.get(type);
            }
        }
        Set<Integer> candidates = new TreeSet<>();
        for (int type : declared.keySet()) {
            if (now.types.get(type).isInterface && below(now.types, dynamicType, type)) {
                candidates.add(type);
            }
        }
        Set<Integer> rest = new TreeSet<>(candidates);
        for (int one : candidates) {
            for (int other : candidates) {
                if (one != other && below(now.types, other, one)) {
                    rest.remove(one);
                }
            }
        }
        return rest.isEmpty() ? NOTHING : declared.get(rest.iterator().next());
    }

    /** The values of the temporaries, then those of the arguments, then the counter. */
    private static List<Integer> evaluate(Call call) {
        List<Integer> values = new ArrayList<>();
        List<Expression> all = new ArrayList<>(call.temporaries);
        all.addAll(call.arguments);
        int counter = 0;
        for (Expression expression : all) {
            switch (expression.kind) {
                case 0 -> values.add(expression.value);
                case 1 -> values.add(counter);
                case 2 -> values.add(counter++);
                default -> values.add(values.get(expression.value));
            }
        }
        values.add(counter);
        return values;
    }

    int run(int call) {
        if (!isCall(call) || dispatch(call) < 0) {
            return 0;
        }
        Call made = now.calls.get(call);
        List<Integer> values = evaluate(made);
        Method method = now.methods.get(dispatch(call));
        int result = 1000 * method.type;
        for (Parameter parameter : method.list) {
            int argument = made.keys.indexOf(parameter.key);
            result += (parameter.key + 1) * (argument < 0 ? parameter.defaultValue : values.get(made.temporaries.size() + argument));
        }
        return result;
    }

    int ticks(int call) {
        if (!isCall(call)) {
            return BAD_ARGUMENT;
        }
        List<Integer> values = evaluate(now.calls.get(call));
        return values.get(values.size() - 1);
    }

    int argumentCount(int call) {
        return isCall(call) ? now.calls.get(call).arguments.size() : BAD_ARGUMENT;
    }

    int argumentKind(int call, int index) {
        if (!isCall(call) || !within(index, 0, now.calls.get(call).arguments.size() - 1)) {
            return BAD_ARGUMENT;
        }
        return now.calls.get(call).arguments.get(index).kind;
    }

    int temporaryCount(int call) {
        return isCall(call) ? now.calls.get(call).temporaries.size() : BAD_ARGUMENT;
    }

    int startChange(int method) {
        if (!isMethod(method)) {
            return BAD_ARGUMENT;
        }
        changed = method;
        entries = new ArrayList<>();
        return familyOf(method).size();
    }

    private List<Parameter> oldList() {
        return now.methods.get(changed).list;
    }

    private List<Integer> newKeys() {
        List<Integer> keys = new ArrayList<>();
        for (Entry entry : entries) {
            keys.add(entry.parameter.key);
        }
        return keys;
    }

    int keepParameter(int index) {
        if (changed < 0) {
            return BAD_STATE;
        }
        if (!within(index, 0, oldList().size() - 1)) {
            return BAD_ARGUMENT;
        }
        for (Entry entry : entries) {
            if (entry.old == index) {
                return BAD_STATE;
            }
        }
        if (entries.size() == 5) {
            return FULL;
        }
        entries.add(new Entry(index, oldList().get(index)));
        return entries.size();
    }

    int insertParameter(int defaultValue) {
        if (!within(defaultValue, -99, 99)) {
            return BAD_ARGUMENT;
        }
        if (changed < 0) {
            return BAD_STATE;
        }
        if (entries.size() == 5) {
            return FULL;
        }
        int key = 0;
        while (keys(oldList()).contains(key) || newKeys().contains(key)) {
            key++;
        }
        entries.add(new Entry(-1, new Parameter(key, defaultValue)));
        return key;
    }

    int clashingMethod() {
        if (changed < 0) {
            return BAD_STATE;
        }
        Set<Integer> family = familyOf(changed);
        for (int method = 0; method < now.methods.size(); method++) {
            Method one = now.methods.get(method);
            if (!family.contains(method) && one.name == now.methods.get(changed).name && one.list.size() == entries.size()) {
                for (int member : family) {
                    if (connected(now.types, one.type, now.methods.get(member).type)) {
                        return method;
                    }
                }
            }
        }
        return NOTHING;
    }

    private boolean concerned(int call) {
        return familyOf(changed).contains(now.calls.get(call).target);
    }

    /** The old arguments in the order in which they are evaluated after the rewriting. */
    private List<Integer> orderAfter(int hoisted, int count) {
        List<Integer> order = new ArrayList<>();
        for (int i = 0; i < count; i++) {
            if ((hoisted >> i) % 2 != 0) {
                order.add(i);
            }
        }
        for (Entry entry : entries) {
            if (entry.old >= 0 && !order.contains(entry.old)) {
                order.add(entry.old);
            }
        }
        return order;
    }

    private boolean keeps(int old) {
        for (Entry entry : entries) {
            if (entry.old == old) {
                return true;
            }
        }
        return false;
    }

    private boolean possible(int hoisted, List<Expression> arguments) {
        for (int i = 0; i < arguments.size(); i++) {
            boolean chosen = (hoisted >> i) % 2 != 0;
            int kind = arguments.get(i).kind;
            if (chosen && !arguments.get(i).counts() || kind == 2 && !keeps(i) && !chosen || kind == 1 && !keeps(i) && chosen) {
                return false;
            }
        }
        List<Integer> order = orderAfter(hoisted, arguments.size());
        for (int one = 0; one < order.size(); one++) {
            for (int two = one + 1; two < order.size(); two++) {
                Expression first = arguments.get(order.get(one));
                Expression second = arguments.get(order.get(two));
                if (first.conflictsWith(second) && order.get(one) > order.get(two)) {
                    return false;
                }
            }
        }
        return true;
    }

    private int hoisted(int call) {
        List<Expression> arguments = now.calls.get(call).arguments;
        int best = -1;
        for (int set = (1 << arguments.size()) - 1; set >= 0; set--) {
            if (possible(set, arguments) && (best < 0 || Integer.bitCount(set) <= Integer.bitCount(best))) {
                best = set;
            }
        }
        return best;
    }

    int hoistedArguments(int call) {
        if (!isCall(call)) {
            return BAD_ARGUMENT;
        }
        if (changed < 0) {
            return BAD_STATE;
        }
        return now.calls.get(call).frozen || !concerned(call) ? 0 : hoisted(call);
    }

    private boolean sufficient(Set<Integer> bridges) {
        for (int call = 0; call < now.calls.size(); call++) {
            if (now.calls.get(call).frozen && concerned(call)) {
                boolean served = false;
                for (int type : bridges) {
                    served |= below(now.types, now.calls.get(call).staticType, type);
                }
                if (!served) {
                    return false;
                }
            }
        }
        return true;
    }

    int bridgeTypes() {
        if (changed < 0) {
            return BAD_STATE;
        }
        Set<Integer> declaring = new TreeSet<>();
        for (int method : familyOf(changed)) {
            declaring.add(now.methods.get(method).type);
        }
        int best = -1;
        for (int set = 255; set >= 0; set--) {
            Set<Integer> bridges = new TreeSet<>();
            for (int type = 0; type < 8; type++) {
                if ((set >> type) % 2 != 0) {
                    bridges.add(type);
                }
            }
            boolean fits = declaring.containsAll(bridges) && sufficient(bridges);
            if (fits && (best < 0 || Integer.bitCount(set) <= Integer.bitCount(best))) {
                best = set;
            }
        }
        return best;
    }

    private Call rewritten(Call old, int hoisted) {
        List<Expression> temporaries = new ArrayList<>(old.temporaries);
        Map<Integer, Integer> temporaryOf = new HashMap<>();
        for (int i = 0; i < old.arguments.size(); i++) {
            if ((hoisted >> i) % 2 != 0) {
                temporaryOf.put(i, temporaries.size());
                temporaries.add(old.arguments.get(i));
            }
        }
        List<Expression> arguments = new ArrayList<>();
        for (Entry entry : entries) {
            if (entry.old < 0) {
                arguments.add(new Expression(0, entry.parameter.defaultValue));
            } else if (temporaryOf.containsKey(entry.old)) {
                arguments.add(new Expression(3, temporaryOf.get(entry.old)));
            } else {
                arguments.add(old.arguments.get(entry.old));
            }
        }
        return new Call(old.staticType, old.dynamicType, old.target, old.frozen, newKeys(), arguments, temporaries);
    }

    int applyChange() {
        if (changed < 0 || clashingMethod() != NOTHING) {
            return BAD_STATE;
        }
        Map<Integer, Call> calls = new HashMap<>();
        boolean full = false;
        for (int call = 0; call < now.calls.size(); call++) {
            if (concerned(call) && now.calls.get(call).frozen) {
                if (entries.size() == oldList().size() && !newKeys().equals(keys(oldList()))) {
                    return BAD_STATE;
                }
            } else if (concerned(call)) {
                Call changedCall = rewritten(now.calls.get(call), hoisted(call));
                full |= changedCall.temporaries.size() > 8;
                calls.put(call, changedCall);
            }
        }
        if (full) {
            return FULL;
        }
        Set<Integer> family = familyOf(changed);
        List<Parameter> list = new ArrayList<>();
        for (Entry entry : entries) {
            list.add(entry.parameter);
        }
        edit();
        for (int member : family) {
            Method old = now.methods.get(member);
            now.methods.set(member, new Method(old.type, old.name, list));
        }
        for (int call : calls.keySet()) {
            now.calls.set(call, calls.get(call));
        }
        return calls.size();
    }

    int undo() {
        if (before.isEmpty()) {
            return BAD_STATE;
        }
        now = before.removeLast();
        changed = -1;
        return before.size();
    }
}
