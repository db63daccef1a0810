/**
 * A change-signature refactoring engine: the parameters of a method are reordered, removed and added
 * through its whole override family, calls are rewritten so that arguments keep their values and their
 * order of evaluation, frozen calls are served by bridges, and clashes with other methods are found.
 *
 * <p>All rows are made by the constructor and used again, so that no call makes an object. Sets of
 * types, methods, calls, keys and arguments are bit sets. The numbers that the tables hold (types,
 * targets, temporaries) are tested before they are put in, and what has been put in is only taken away
 * by undo(), together with everything that was put in later; so they can be used as indexes.
 */
public final class SignatureChanger {
    public static final int INVALID_ARGUMENT = -1;
    public static final int INVALID_STATE = -2;
    public static final int LIMIT_REACHED = -3;
    public static final int NONE = -9;

    private static final int MAX_TYPES = 8;
    private static final int MAX_METHODS = 16;
    private static final int MAX_CALLS = 8;
    private static final int MAX_PARAMETERS = 5;
    private static final int MAX_TEMPORARIES = 8;
    private static final int MAX_NAME = 5;
    private static final int MAX_VALUE = 99;
    private static final int MAX_UNDO = 8;

    private static final int CONSTANT = 0;
    private static final int READ = 1;
    private static final int TICK = 2;
    private static final int TEMPORARY = 3;

    private static final int NO_SUPERCLASS = -1;
    private static final int INSERTED = -1;

    private final Model model;
    private final Draft draft;
    private final History history;
    private final Evaluation evaluation;
    private final Hoisting hoisting;
    private final int[] hoistedOfCall;

    public SignatureChanger() {
        model = new Model();
        draft = new Draft();
        history = new History();
        evaluation = new Evaluation();
        hoisting = new Hoisting();
        hoistedOfCall = new int[MAX_CALLS];
    }

    public int declareType(int isInterface, int superclass, int interfaces) {
        Types types = model.types;
        if (!types.allowsSuperclass(isInterface, superclass) || !types.areInterfaces(interfaces)) {
            return INVALID_ARGUMENT;
        }
        int inherited = types.inheritedFrom(superclass, interfaces);
        if (model.methods.disagreeWithin(inherited)) {
            return INVALID_STATE;
        }
        if (types.count >= MAX_TYPES) {
            return LIMIT_REACHED;
        }
        beginEdit();
        return types.add(isInterface, inherited);
    }

    public int declareMethod(int type, int name, int arity) {
        Methods methods = model.methods;
        if (!model.types.exists(type) || !isSignature(name, arity)) {
            return INVALID_ARGUMENT;
        }
        int related = methods.withSignature(name, arity, model.types.connectedWith(bit(type)));
        if (methods.declaredBy(type, name, arity) != NONE || !methods.agree(related)) {
            return INVALID_STATE;
        }
        if (methods.count >= MAX_METHODS) {
            return LIMIT_REACHED;
        }
        beginEdit();
        return methods.add(type, name, arity, methods.smallest(related));
    }

    public int declareCall(int staticType, int dynamicType, int name, int arity) {
        Types types = model.types;
        if (!types.exists(staticType) || !types.exists(dynamicType) || !isSignature(name, arity)) {
            return INVALID_ARGUMENT;
        }
        int target = model.targetFor(staticType, name, arity);
        if (!types.isClass(dynamicType) || !types.inherits(dynamicType, staticType) || target == NONE) {
            return INVALID_STATE;
        }
        if (model.calls.count >= MAX_CALLS) {
            return LIMIT_REACHED;
        }
        beginEdit();
        return model.calls.add(staticType, dynamicType, target, model.methods);
    }

    public int setArgument(int call, int index, int kind, int value) {
        Calls calls = model.calls;
        if (!calls.hasArgument(call, index) || !isExpression(kind, value)) {
            return INVALID_ARGUMENT;
        }
        int previous = calls.kindOf(call, index);
        if (calls.isFrozen(call) || previous == TEMPORARY) {
            return INVALID_STATE;
        }
        beginEdit();
        calls.putArgument(call, index, kind, value);
        return previous;
    }

    public int setFrozen(int call, int frozen) {
        Calls calls = model.calls;
        if (!calls.exists(call) || (frozen != 0 && frozen != 1)) {
            return INVALID_ARGUMENT;
        }
        boolean freeze = frozen == 1;
        if (calls.isFrozen(call) == freeze || (!freeze && !calls.fitsTarget(call, model.methods))) {
            return INVALID_STATE;
        }
        beginEdit();
        calls.frozenSet ^= bit(call);
        return Integer.bitCount(calls.frozenSet);
    }

    public int typeCount() {
        return model.types.count;
    }

    public int isSubtype(int one, int other) {
        if (!model.types.exists(one) || !model.types.exists(other)) {
            return INVALID_ARGUMENT;
        }
        return model.types.inherits(one, other) ? 1 : 0;
    }

    public int family(int method) {
        return model.methods.exists(method) ? model.familyOf(method) : INVALID_ARGUMENT;
    }

    public int parameterCount(int method) {
        return model.methods.exists(method) ? model.methods.arity[method] : INVALID_ARGUMENT;
    }

    public int parameterKey(int method, int index) {
        Methods methods = model.methods;
        if (!methods.exists(method) || index < 0 || index >= methods.arity[method]) {
            return INVALID_ARGUMENT;
        }
        return methods.keyOf(method, index);
    }

    public int dispatch(int call) {
        return model.calls.exists(call) ? model.executedBy(call) : INVALID_ARGUMENT;
    }

    public int run(int call) {
        if (!model.calls.exists(call)) {
            return 0;
        }
        int method = model.executedBy(call);
        if (method == NONE) {
            return 0;
        }
        evaluation.evaluate(model.calls, call);
        return evaluation.resultOf(model.methods, method, model.calls, call);
    }

    public int ticks(int call) {
        if (!model.calls.exists(call)) {
            return INVALID_ARGUMENT;
        }
        evaluation.evaluate(model.calls, call);
        return evaluation.counter;
    }

    public int argumentCount(int call) {
        return model.calls.exists(call) ? model.calls.argumentCounts[call] : INVALID_ARGUMENT;
    }

    public int argumentKind(int call, int index) {
        return model.calls.hasArgument(call, index) ? model.calls.kindOf(call, index) : INVALID_ARGUMENT;
    }

    public int temporaryCount(int call) {
        return model.calls.exists(call) ? model.calls.temporaryCounts[call] : INVALID_ARGUMENT;
    }

    public int startChange(int method) {
        if (!model.methods.exists(method)) {
            return INVALID_ARGUMENT;
        }
        int family = model.familyOf(method);
        draft.start(model.methods, method, family);
        return Integer.bitCount(family);
    }

    public int keepParameter(int index) {
        if (!draft.open) {
            return INVALID_STATE;
        }
        if (index < 0 || index >= draft.oldCount) {
            return INVALID_ARGUMENT;
        }
        if (contains(draft.keptSet, index)) {
            return INVALID_STATE;
        }
        if (draft.count >= MAX_PARAMETERS) {
            return LIMIT_REACHED;
        }
        return draft.keep(model.methods, index);
    }

    public int insertParameter(int defaultValue) {
        if (!isValue(defaultValue)) {
            return INVALID_ARGUMENT;
        }
        if (!draft.open) {
            return INVALID_STATE;
        }
        if (draft.count >= MAX_PARAMETERS) {
            return LIMIT_REACHED;
        }
        return draft.insert(defaultValue);
    }

    public int clashingMethod() {
        return draft.open ? model.clashOf(draft) : INVALID_STATE;
    }

    public int hoistedArguments(int call) {
        if (!model.calls.exists(call)) {
            return INVALID_ARGUMENT;
        }
        if (!draft.open) {
            return INVALID_STATE;
        }
        boolean rewritten = contains(rewrittenCalls(), call);
        return rewritten ? hoisting.choose(model.calls, call, draft) : 0;
    }

    public int bridgeTypes() {
        return draft.open ? model.bridgesFor(draft.family) : INVALID_STATE;
    }

    public int applyChange() {
        if (!draft.open || model.clashOf(draft) != NONE || breaksFrozenCall()) {
            return INVALID_STATE;
        }
        int rewritten = rewrittenCalls();
        if (!chooseHoisted(rewritten)) {
            return LIMIT_REACHED;
        }
        history.remember(model);
        model.calls.rewrite(rewritten, hoistedOfCall, draft);
        model.methods.replaceParameters(draft);
        draft.close();
        return Integer.bitCount(rewritten);
    }

    public int undo() {
        if (history.count == 0) {
            return INVALID_STATE;
        }
        draft.close();
        return history.goBack(model);
    }

    /** Every error has been found before this: from here on the edit succeeds. */
    private void beginEdit() {
        history.remember(model);
        draft.close();
    }

    private int rewrittenCalls() {
        return model.calls.withTargetIn(draft.family) & ~model.calls.frozenSet;
    }

    /** A bridge with the signature of the new method could not stand beside it. */
    private boolean breaksFrozenCall() {
        boolean frozen = (model.calls.withTargetIn(draft.family) & model.calls.frozenSet) != 0;
        return frozen && draft.count == draft.oldCount && !draft.keepsWholeList();
    }

    /** False if a call has no room for its new temporaries. */
    private boolean chooseHoisted(int rewritten) {
        Calls calls = model.calls;
        for (int call = 0; call < calls.count; call++) {
            if (contains(rewritten, call)) {
                int hoisted = hoisting.choose(calls, call, draft);
                if (calls.temporaryCounts[call] + Integer.bitCount(hoisted) > MAX_TEMPORARIES) {
                    return false;
                }
                hoistedOfCall[call] = hoisted;
            }
        }
        return true;
    }

    private static int bit(int number) {
        return 1 << number;
    }

    private static boolean contains(int set, int number) {
        return (set & (1 << number)) != 0;
    }

    private static boolean isValue(int value) {
        return value >= -MAX_VALUE && value <= MAX_VALUE;
    }

    private static boolean isSignature(int name, int arity) {
        return name >= 0 && name <= MAX_NAME && arity >= 0 && arity <= MAX_PARAMETERS;
    }

    private static boolean isExpression(int kind, int value) {
        return kind == CONSTANT ? isValue(value) : (kind == READ || kind == TICK) && value == 0;
    }

    private static boolean conflict(int oneKind, int otherKind) {
        boolean oneCounts = oneKind == READ || oneKind == TICK;
        boolean otherCounts = otherKind == READ || otherKind == TICK;
        return oneCounts && otherCounts && (oneKind == TICK || otherKind == TICK);
    }

    private static void copyRow(int[] from, int[] to) {
        System.arraycopy(from, 0, to, 0, Math.min(from.length, to.length));
    }

    /** The types. A type's set of supertypes, with itself in it, answers all questions about it. */
    private static final class Types {
        int count;
        int interfaceSet;
        final int[] supertypes = new int[MAX_TYPES];

        boolean exists(int type) {
            return type >= 0 && type < count;
        }

        boolean isClass(int type) {
            return exists(type) && !contains(interfaceSet, type);
        }

        boolean areInterfaces(int set) {
            return (set & ~interfaceSet) == 0;
        }

        boolean allowsSuperclass(int isInterface, int superclass) {
            if (superclass == NO_SUPERCLASS) {
                return isInterface == 0 || isInterface == 1;
            }
            return isInterface == 0 && isClass(superclass);
        }

        boolean inherits(int one, int other) {
            return contains(supertypes[one], other);
        }

        int inheritedFrom(int superclass, int interfaces) {
            int inherited = superclass == NO_SUPERCLASS ? 0 : supertypes[superclass];
            for (int type = 0; type < count; type++) {
                if (contains(interfaces, type)) {
                    inherited |= supertypes[type];
                }
            }
            return inherited;
        }

        int add(int isInterface, int inherited) {
            int type = count;
            supertypes[type] = inherited | bit(type);
            if (isInterface == 1) {
                interfaceSet |= bit(type);
            }
            count++;
            return type;
        }

        /** The types that are connected with at least one type of the set. */
        int connectedWith(int set) {
            int connected = 0;
            for (int type = 0; type < count; type++) {
                if ((supertypes[type] & set) != 0) {
                    connected |= supertypes[type];
                }
            }
            return connected;
        }

        void copyFrom(Types other) {
            count = other.count;
            interfaceSet = other.interfaceSet;
            copyRow(other.supertypes, supertypes);
        }
    }

    /** The methods and their parameter lists. */
    private static final class Methods {
        int count;
        final int[] type = new int[MAX_METHODS];
        final int[] name = new int[MAX_METHODS];
        final int[] arity = new int[MAX_METHODS];
        private final int[] keys = new int[MAX_METHODS * MAX_PARAMETERS];
        private final int[] defaults = new int[MAX_METHODS * MAX_PARAMETERS];

        boolean exists(int method) {
            return method >= 0 && method < count;
        }

        int keyOf(int method, int index) {
            return keys[method * MAX_PARAMETERS + index];
        }

        int defaultOf(int method, int index) {
            return defaults[method * MAX_PARAMETERS + index];
        }

        int keySetOf(int method) {
            int set = 0;
            for (int index = 0; index < arity[method]; index++) {
                set |= bit(keyOf(method, index));
            }
            return set;
        }

        /** The methods with this signature that are declared by a type of the set. */
        int withSignature(int wantedName, int wantedArity, int typeSet) {
            int found = 0;
            for (int method = 0; method < count; method++) {
                boolean signature = name[method] == wantedName && arity[method] == wantedArity;
                if (signature && contains(typeSet, type[method])) {
                    found |= bit(method);
                }
            }
            return found;
        }

        int smallest(int set) {
            for (int method = 0; method < count; method++) {
                if (contains(set, method)) {
                    return method;
                }
            }
            return NONE;
        }

        int declaredBy(int declaringType, int wantedName, int wantedArity) {
            return smallest(withSignature(wantedName, wantedArity, bit(declaringType)));
        }

        int typesOf(int set) {
            int types = 0;
            for (int method = 0; method < count; method++) {
                if (contains(set, method)) {
                    types |= bit(type[method]);
                }
            }
            return types;
        }

        /** Of two methods with the same signature. */
        private boolean sameParameters(int one, int other) {
            for (int index = 0; index < arity[one]; index++) {
                boolean sameKey = keyOf(one, index) == keyOf(other, index);
                if (!sameKey || defaultOf(one, index) != defaultOf(other, index)) {
                    return false;
                }
            }
            return true;
        }

        /** Whether all methods of the set, which have one signature, have the same parameter list. */
        boolean agree(int set) {
            int first = smallest(set);
            if (first == NONE) {
                return true;
            }
            for (int method = first + 1; method < count; method++) {
                if (contains(set, method) && !sameParameters(first, method)) {
                    return false;
                }
            }
            return true;
        }

        /** Whether two methods of these types have the same signature and different parameter lists. */
        boolean disagreeWithin(int typeSet) {
            for (int method = 0; method < count; method++) {
                boolean within = contains(typeSet, type[method]);
                if (within && !agree(withSignature(name[method], arity[method], typeSet))) {
                    return true;
                }
            }
            return false;
        }

        /** The new method gets the parameter list of the pattern, if there is one. */
        int add(int newType, int newName, int newArity, int pattern) {
            int method = count;
            type[method] = newType;
            name[method] = newName;
            arity[method] = newArity;
            for (int index = 0; index < newArity; index++) {
                int key = pattern == NONE ? index : keyOf(pattern, index);
                putParameter(method, index, key, pattern == NONE ? 0 : defaultOf(pattern, index));
            }
            count++;
            return method;
        }

        private void putParameter(int method, int index, int key, int defaultValue) {
            keys[method * MAX_PARAMETERS + index] = key;
            defaults[method * MAX_PARAMETERS + index] = defaultValue;
        }

        void replaceParameters(Draft draft) {
            for (int method = 0; method < count; method++) {
                if (contains(draft.family, method)) {
                    arity[method] = draft.count;
                    for (int entry = 0; entry < draft.count; entry++) {
                        putParameter(method, entry, draft.keys[entry], draft.defaults[entry]);
                    }
                }
            }
        }

        void copyFrom(Methods other) {
            count = other.count;
            copyRow(other.type, type);
            copyRow(other.name, name);
            copyRow(other.arity, arity);
            copyRow(other.keys, keys);
            copyRow(other.defaults, defaults);
        }
    }

    /** The calls. The value of an argument of kind TEMPORARY is the number of the temporary. */
    private static final class Calls {
        int count;
        int frozenSet;
        final int[] staticType = new int[MAX_CALLS];
        final int[] dynamicType = new int[MAX_CALLS];
        final int[] target = new int[MAX_CALLS];
        final int[] argumentCounts = new int[MAX_CALLS];
        final int[] temporaryCounts = new int[MAX_CALLS];
        private final int[] keys = new int[MAX_CALLS * MAX_PARAMETERS];
        private final int[] kinds = new int[MAX_CALLS * MAX_PARAMETERS];
        private final int[] values = new int[MAX_CALLS * MAX_PARAMETERS];
        private final int[] temporaryKinds = new int[MAX_CALLS * MAX_TEMPORARIES];
        private final int[] newKinds = new int[MAX_PARAMETERS];
        private final int[] newValues = new int[MAX_PARAMETERS];

        boolean exists(int call) {
            return call >= 0 && call < count;
        }

        boolean hasArgument(int call, int index) {
            return exists(call) && index >= 0 && index < argumentCounts[call];
        }

        boolean isFrozen(int call) {
            return contains(frozenSet, call);
        }

        int keyOf(int call, int index) {
            return keys[call * MAX_PARAMETERS + index];
        }

        int kindOf(int call, int index) {
            return kinds[call * MAX_PARAMETERS + index];
        }

        int valueOf(int call, int index) {
            return values[call * MAX_PARAMETERS + index];
        }

        int temporaryKindOf(int call, int temporary) {
            return temporaryKinds[call * MAX_TEMPORARIES + temporary];
        }

        int withTargetIn(int methodSet) {
            int found = 0;
            for (int call = 0; call < count; call++) {
                if (contains(methodSet, target[call])) {
                    found |= bit(call);
                }
            }
            return found;
        }

        /** Whether the arguments belong to the keys of the present parameters of the target. */
        boolean fitsTarget(int call, Methods methods) {
            int method = target[call];
            if (argumentCounts[call] != methods.arity[method]) {
                return false;
            }
            for (int index = 0; index < argumentCounts[call]; index++) {
                if (keyOf(call, index) != methods.keyOf(method, index)) {
                    return false;
                }
            }
            return true;
        }

        int add(int newStaticType, int newDynamicType, int newTarget, Methods methods) {
            int call = count;
            staticType[call] = newStaticType;
            dynamicType[call] = newDynamicType;
            target[call] = newTarget;
            argumentCounts[call] = methods.arity[newTarget];
            temporaryCounts[call] = 0;
            for (int index = 0; index < methods.arity[newTarget]; index++) {
                keys[call * MAX_PARAMETERS + index] = methods.keyOf(newTarget, index);
                putArgument(call, index, CONSTANT, 0);
            }
            count++;
            return call;
        }

        void putArgument(int call, int index, int kind, int value) {
            kinds[call * MAX_PARAMETERS + index] = kind;
            values[call * MAX_PARAMETERS + index] = value;
        }

        void rewrite(int callSet, int[] hoistedOfCall, Draft draft) {
            for (int call = 0; call < count; call++) {
                if (contains(callSet, call)) {
                    hoist(call, hoistedOfCall[call]);
                    rearrange(call, draft);
                }
            }
        }

        private void hoist(int call, int hoisted) {
            for (int index = 0; index < argumentCounts[call]; index++) {
                if (contains(hoisted, index)) {
                    int temporary = temporaryCounts[call];
                    temporaryKinds[call * MAX_TEMPORARIES + temporary] = kindOf(call, index);
                    putArgument(call, index, TEMPORARY, temporary);
                    temporaryCounts[call]++;
                }
            }
        }

        /** The new list is collected aside, as it lies over the old one. */
        private void rearrange(int call, Draft draft) {
            for (int entry = 0; entry < draft.count; entry++) {
                int old = draft.sources[entry];
                newKinds[entry] = old == INSERTED ? CONSTANT : kindOf(call, old);
                newValues[entry] = old == INSERTED ? draft.defaults[entry] : valueOf(call, old);
            }
            for (int entry = 0; entry < draft.count; entry++) {
                keys[call * MAX_PARAMETERS + entry] = draft.keys[entry];
                putArgument(call, entry, newKinds[entry], newValues[entry]);
            }
            argumentCounts[call] = draft.count;
        }

        void copyFrom(Calls other) {
            count = other.count;
            frozenSet = other.frozenSet;
            copyRow(other.staticType, staticType);
            copyRow(other.dynamicType, dynamicType);
            copyRow(other.target, target);
            copyRow(other.argumentCounts, argumentCounts);
            copyRow(other.temporaryCounts, temporaryCounts);
            copyRow(other.keys, keys);
            copyRow(other.kinds, kinds);
            copyRow(other.values, values);
            copyRow(other.temporaryKinds, temporaryKinds);
        }
    }

    /** All that undo() restores, and the questions that concern more than one table. */
    private static final class Model {
        final Types types = new Types();
        final Methods methods = new Methods();
        final Calls calls = new Calls();

        void copyFrom(Model other) {
            types.copyFrom(other.types);
            methods.copyFrom(other.methods);
            calls.copyFrom(other.calls);
        }

        int familyOf(int method) {
            int name = methods.name[method];
            int arity = methods.arity[method];
            int found = bit(method);
            // Every round but the last one adds a method, so there are at most as many as methods.
            for (int round = 0; round < methods.count; round++) {
                int reach = types.connectedWith(methods.typesOf(found));
                int related = methods.withSignature(name, arity, reach);
                if (related == found) {
                    break;
                }
                found = related;
            }
            return found;
        }

        int targetFor(int staticType, int name, int arity) {
            return methods.smallest(methods.withSignature(name, arity, types.supertypes[staticType]));
        }

        /** The method to which a call is dispatched. */
        int executedBy(int call) {
            int name = methods.name[calls.target[call]];
            int arity = methods.arity[calls.target[call]];
            int supertypes = types.supertypes[calls.dynamicType[call]];
            int inClasses = classMethod(supertypes & ~types.interfaceSet, name, arity);
            return inClasses != NONE
                ? inClasses
                : interfaceMethod(supertypes & types.interfaceSet, name, arity);
        }

        /** A superclass has the smaller number, so the chain is walked from the largest number down. */
        private int classMethod(int chain, int name, int arity) {
            for (int type = types.count - 1; type >= 0; type--) {
                int method = contains(chain, type) ? methods.declaredBy(type, name, arity) : NONE;
                if (method != NONE) {
                    return method;
                }
            }
            return NONE;
        }

        private int interfaceMethod(int interfaces, int name, int arity) {
            int candidates = methods.typesOf(methods.withSignature(name, arity, interfaces));
            for (int type = 0; type < types.count; type++) {
                if (contains(candidates, type) && !hasSubtypeIn(candidates & ~bit(type), type)) {
                    return methods.declaredBy(type, name, arity);
                }
            }
            return NONE;
        }

        private boolean hasSubtypeIn(int typeSet, int type) {
            for (int other = 0; other < types.count; other++) {
                if (contains(typeSet, other) && types.inherits(other, type)) {
                    return true;
                }
            }
            return false;
        }

        /** The smallest method with which the change clashes. */
        int clashOf(Draft draft) {
            int reach = types.connectedWith(methods.typesOf(draft.family));
            int same = methods.withSignature(methods.name[draft.method], draft.count, reach);
            return methods.smallest(same & ~draft.family);
        }

        int bridgesFor(int family) {
            int frozen = calls.withTargetIn(family) & calls.frozenSet;
            int declaring = methods.typesOf(family);
            int best = declaring;
            // Smaller sets come first, so of several with the fewest types the smallest one stays.
            for (int set = 0; set < bit(MAX_TYPES); set++) {
                boolean allowed = (set & ~declaring) == 0;
                boolean fewer = Integer.bitCount(set) < Integer.bitCount(best);
                if (allowed && fewer && bridgesServe(set, frozen)) {
                    best = set;
                }
            }
            return best;
        }

        private boolean bridgesServe(int bridges, int frozen) {
            for (int call = 0; call < calls.count; call++) {
                boolean served = (types.supertypes[calls.staticType[call]] & bridges) != 0;
                if (contains(frozen, call) && !served) {
                    return false;
                }
            }
            return true;
        }
    }

    /** The draft of a change: the entries of the new list, and what it needs to know of the old one. */
    private static final class Draft {
        boolean open;
        int method;
        int family;
        int oldCount;
        int keptSet;
        int count;
        final int[] sources = new int[MAX_PARAMETERS];
        final int[] keys = new int[MAX_PARAMETERS];
        final int[] defaults = new int[MAX_PARAMETERS];
        private int usedKeys;

        void start(Methods methods, int changed, int changedFamily) {
            open = true;
            method = changed;
            family = changedFamily;
            oldCount = methods.arity[changed];
            keptSet = 0;
            count = 0;
            usedKeys = methods.keySetOf(changed);
        }

        void close() {
            open = false;
        }

        int keep(Methods methods, int index) {
            keptSet |= bit(index);
            append(index, methods.keyOf(method, index), methods.defaultOf(method, index));
            return count;
        }

        int insert(int defaultValue) {
            int key = freeKey();
            usedKeys |= bit(key);
            append(INSERTED, key, defaultValue);
            return key;
        }

        private void append(int source, int key, int defaultValue) {
            sources[count] = source;
            keys[count] = key;
            defaults[count] = defaultValue;
            count++;
        }

        /** At most 5 keys of the old list and 4 of entries are used, so one of the first 10 is free. */
        private int freeKey() {
            int key = 0;
            while (key < 2 * MAX_PARAMETERS && contains(usedKeys, key)) {
                key++;
            }
            return key;
        }

        /** An inserted key is never one of the old list, so only the kept ones can make it the same. */
        boolean keepsWholeList() {
            for (int entry = 0; entry < count; entry++) {
                if (sources[entry] != entry) {
                    return false;
                }
            }
            return count == oldCount;
        }
    }

    /** A run of a call. */
    private static final class Evaluation {
        int counter;
        private final int[] temporaries = new int[MAX_TEMPORARIES];
        private final int[] arguments = new int[MAX_PARAMETERS];

        void evaluate(Calls calls, int call) {
            counter = 0;
            for (int index = 0; index < calls.temporaryCounts[call]; index++) {
                temporaries[index] = readOrTick(calls.temporaryKindOf(call, index));
            }
            for (int index = 0; index < calls.argumentCounts[call]; index++) {
                arguments[index] = valueOf(calls.kindOf(call, index), calls.valueOf(call, index));
            }
        }

        private int valueOf(int kind, int value) {
            if (kind == CONSTANT) {
                return value;
            }
            return kind == TEMPORARY ? temporaries[value] : readOrTick(kind);
        }

        private int readOrTick(int kind) {
            int value = counter;
            if (kind == TICK) {
                counter++;
            }
            return value;
        }

        int resultOf(Methods methods, int method, Calls calls, int call) {
            int result = 1000 * methods.type[method];
            for (int index = 0; index < methods.arity[method]; index++) {
                int key = methods.keyOf(method, index);
                result += (key + 1) * received(calls, call, key, methods.defaultOf(method, index));
            }
            return result;
        }

        private int received(Calls calls, int call, int key, int defaultValue) {
            for (int index = 0; index < calls.argumentCounts[call]; index++) {
                if (calls.keyOf(call, index) == key) {
                    return arguments[index];
                }
            }
            return defaultValue;
        }
    }

    /** The choice of the old arguments of a call that become temporaries. */
    private static final class Hoisting {
        private int count;
        private int kept;
        private final int[] kinds = new int[MAX_PARAMETERS];
        private final int[] positions = new int[MAX_PARAMETERS];

        int choose(Calls calls, int call, Draft draft) {
            look(calls, call, draft);
            int required = ofKind(TICK) & ~kept;
            int allowed = ofKind(TICK) | (ofKind(READ) & kept);
            int best = allowed;
            // Smaller sets come first, so of several with the fewest arguments the smallest one stays.
            for (int set = 0; set < bit(MAX_PARAMETERS); set++) {
                boolean possible = (required & ~set) == 0 && (set & ~allowed) == 0;
                boolean fewer = Integer.bitCount(set) < Integer.bitCount(best);
                if (possible && fewer && keepsOrder(set)) {
                    best = set;
                }
            }
            return best;
        }

        private void look(Calls calls, int call, Draft draft) {
            count = calls.argumentCounts[call];
            kept = draft.keptSet;
            for (int index = 0; index < count; index++) {
                kinds[index] = calls.kindOf(call, index);
            }
            for (int entry = 0; entry < draft.count; entry++) {
                if (draft.sources[entry] != INSERTED) {
                    positions[draft.sources[entry]] = entry;
                }
            }
        }

        private int ofKind(int kind) {
            int found = 0;
            for (int index = 0; index < count; index++) {
                if (kinds[index] == kind) {
                    found |= bit(index);
                }
            }
            return found;
        }

        private boolean keepsOrder(int hoisted) {
            int evaluated = kept | hoisted;
            for (int later = 1; later < count; later++) {
                for (int earlier = 0; earlier < later; earlier++) {
                    boolean both = contains(evaluated, earlier) && contains(evaluated, later);
                    boolean bound = both && conflict(kinds[earlier], kinds[later]);
                    if (bound && !staysEarlier(earlier, later, hoisted)) {
                        return false;
                    }
                }
            }
            return true;
        }

        private boolean staysEarlier(int earlier, int later, int hoisted) {
            if (contains(hoisted, earlier)) {
                return true;
            }
            return !contains(hoisted, later) && positions[earlier] < positions[later];
        }
    }

    /** The states before the last edits, in a ring that is written over. */
    private static final class History {
        int count;
        private int next;
        private final Model[] saved = new Model[MAX_UNDO];

        History() {
            for (int slot = 0; slot < MAX_UNDO; slot++) {
                saved[slot] = new Model();
            }
        }

        void remember(Model model) {
            saved[next].copyFrom(model);
            next = (next + 1) % MAX_UNDO;
            count = Math.min(count + 1, MAX_UNDO);
        }

        int goBack(Model model) {
            next = (next + MAX_UNDO - 1) % MAX_UNDO;
            model.copyFrom(saved[next]);
            count--;
            return count;
        }
    }
}
