/** Promises 18 startChange to 24 applyChange. */
public final class ChangeTest {
    public static void main(String[] arguments) {
        startedChanges();
        keptParameters();
        insertedParameters();
        clashes();
        hoistedTicks();
        hoistedReads();
        hoistedChoices();
        hoistedWithout();
        bridges();
        applied();
        appliedToFrozen();
        appliedTemporaries();
        temporaryLimit();
        editsRemoveTheDraft();
        Due.end();
    }

    /** A call of a method with five parameters, of these kinds. */
    private static String call(int... kinds) {
        StringBuilder text = new StringBuilder("declareType(0,-1,0) = 0; declareMethod(0,0," + kinds.length + ") = 0; declareCall(0,0,0," + kinds.length + ") = 0; ");
        for (int i = 0; i < kinds.length; i++) {
            text.append("setArgument(0," + i + "," + kinds[i] + ",0) = 0; ");
        }
        return text + "startChange(0) = 1; ";
    }

    /** Entries that keep these parameters. */
    private static String keep(int... parameters) {
        StringBuilder text = new StringBuilder();
        for (int i = 0; i < parameters.length; i++) {
            text.append("keepParameter(" + parameters[i] + ") = " + (i + 1) + "; ");
        }
        return text.toString();
    }

    private static void startedChanges() {
        Script.play("18 start", "startChange(0) = -1; declareType(0,-1,0) = 0; declareType(0,0,0) = 1; declareMethod(0,0,1) = 0; declareMethod(1,0,1) = 1; declareMethod(1,0,2) = 2",
            "startChange(3) = -1; startChange(-1) = -1; startChange(32) = -1; keepParameter(0) = -2; startChange(0) = 2; startChange(1) = 2; startChange(2) = 1; keepParameter(1) = 1");
        Script.play("18 in place of the old draft", "declareType(0,-1,0) = 0; declareMethod(0,0,2) = 0; declareMethod(0,1,3) = 1; startChange(0) = 1; keepParameter(1) = 1; insertParameter(0) = 2",
            "startChange(0) = 1; keepParameter(1) = 1; insertParameter(3) = 2; startChange(2) = -1; keepParameter(1) = -2; keepParameter(0) = 3; keepParameter(2) = -1",
            "startChange(1) = 1; keepParameter(2) = 1; insertParameter(0) = 3; applyChange() = 0; parameterCount(0) = 2; parameterCount(1) = 2; parameterKey(1,0) = 2; parameterKey(1,1) = 3");
    }

    private static void keptParameters() {
        Script.play("19 keep", "declareType(0,-1,0) = 0; declareMethod(0,0,5) = 0; declareMethod(0,1,0) = 1; keepParameter(0) = -2; keepParameter(-1) = -2; keepParameter(9) = -2; startChange(0) = 1",
            "keepParameter(4) = 1; keepParameter(4) = -2; keepParameter(5) = -1; keepParameter(-1) = -1; keepParameter(32) = -1; keepParameter(2147483647) = -1; keepParameter(-2147483648) = -1; keepParameter(0) = 2; keepParameter(1) = 3; keepParameter(2) = 4",
            "insertParameter(0) = 5; keepParameter(3) = -3; keepParameter(2) = -2; keepParameter(5) = -1; insertParameter(0) = -3; insertParameter(100) = -1; clashingMethod() = -9; applyChange() = 0",
            "parameterKey(0,0) = 4; parameterKey(0,1) = 0; parameterKey(0,2) = 1; parameterKey(0,3) = 2; parameterKey(0,4) = 5; keepParameter(0) = -2; startChange(1) = 1; keepParameter(0) = -1");
        Script.play("19 five kept", "declareType(0,-1,0) = 0; declareMethod(0,0,5) = 0; startChange(0) = 1", keep(0, 1, 2, 3, 4) + "keepParameter(4) = -2; insertParameter(1) = -3");
        // The default value 7 goes along with the key.
        Script.play("19 with its default value", "declareType(0,-1,0) = 0; declareMethod(0,0,0) = 0; declareCall(0,0,0,0) = 0; setFrozen(0,1) = 1; startChange(0) = 1; insertParameter(7) = 0; insertParameter(-8) = 1; applyChange() = 0; run(0) = -9; startChange(0) = 1; keepParameter(1) = 1; insertParameter(1) = 2; keepParameter(0) = 3; applyChange() = 0; run(0) = -6; startChange(0) = 1; keepParameter(2) = 1; applyChange() = 0; run(0) = 7");
    }

    private static void insertedParameters() {
        Script.play("20 keys", "declareType(0,-1,0) = 0; declareMethod(0,0,5) = 0; insertParameter(0) = -2; insertParameter(100) = -1; insertParameter(-100) = -1; startChange(0) = 1; insertParameter(100) = -1; insertParameter(-100) = -1; insertParameter(-2147483648) = -1",
            "insertParameter(99) = 5; insertParameter(-99) = 6; insertParameter(0) = 7; insertParameter(1) = 8; insertParameter(2) = 9; insertParameter(3) = -3; keepParameter(0) = -3; applyChange() = 0",
            "parameterKey(0,0) = 5; parameterKey(0,4) = 9; startChange(0) = 1; insertParameter(0) = 0; insertParameter(0) = 1; insertParameter(0) = 2; insertParameter(0) = 3; insertParameter(0) = 4; applyChange() = 0; parameterKey(0,4) = 4");
        Script.play("20 gaps", "declareType(0,-1,0) = 0; declareMethod(0,0,4) = 0; startChange(0) = 1", keep(1, 3), "applyChange() = 0; startChange(0) = 1; insertParameter(0) = 0; keepParameter(1) = 2; insertParameter(0) = 2; keepParameter(0) = 4; insertParameter(0) = 4; applyChange() = 0",
            "parameterKey(0,0) = 0; parameterKey(0,1) = 3; parameterKey(0,2) = 2; parameterKey(0,3) = 1; parameterKey(0,4) = 4; startChange(0) = 1; insertParameter(0) = 5");
    }

    private static void clashes() {
        String above = "declareType(0,-1,0) = 0; declareType(0,0,0) = 1; declareType(0,0,0) = 2; ";
        Script.play("21 no draft", "clashingMethod() = -2");
        Script.play("21 the same type", above + "declareMethod(0,0,1) = 0; declareMethod(0,0,0) = 1; declareMethod(0,1,2) = 2; startChange(0) = 1; clashingMethod() = 1; keepParameter(0) = 1; clashingMethod() = -9; insertParameter(0) = 1; clashingMethod() = -9");
        Script.play("21 connected types", above + "declareMethod(2,0,1) = 0; declareMethod(1,0,2) = 1; declareMethod(0,0,3) = 2; startChange(1) = 1; clashingMethod() = -9; insertParameter(0) = 2; clashingMethod() = -9; keepParameter(0) = 2; clashingMethod() = -9; keepParameter(1) = 3; clashingMethod() = 2; applyChange() = -2; insertParameter(1) = 3; clashingMethod() = -9; applyChange() = 0");
        Script.play("21 connected from below", "declareType(1,-1,0) = 0; declareType(1,-1,0) = 1; declareType(0,-1,3) = 2; declareMethod(0,0,1) = 0; declareMethod(1,0,0) = 1; startChange(0) = 1; clashingMethod() = 1; startChange(1) = 1; insertParameter(0) = 0; clashingMethod() = 0");
        // Method 0 stands in the type 1, which is connected with the type 0 of the family, but not with its type 2.
        Script.play("21 the smallest of the whole family", above + "declareMethod(1,0,1) = 0; declareMethod(2,0,1) = 1; declareMethod(0,0,2) = 2; declareMethod(2,0,2) = 3; startChange(3) = 2; insertParameter(0) = 2; clashingMethod() = 0; applyChange() = -2; startChange(0) = 1; keepParameter(0) = 1; insertParameter(0) = 1; clashingMethod() = 2");
        Script.play("21 another name", above + "declareMethod(0,0,1) = 0; declareMethod(0,1,0) = 1; declareMethod(1,1,0) = 2; startChange(0) = 1; clashingMethod() = -9; applyChange() = 0");
        Script.play("21 not connected", above + "declareMethod(1,0,1) = 0; declareMethod(2,0,0) = 1; startChange(0) = 1; clashingMethod() = -9; applyChange() = 0; family(0) = 1; family(1) = 2");
        Script.play("21 the old length", above + "declareMethod(0,0,2) = 0; declareMethod(1,0,2) = 1; startChange(0) = 2", keep(1, 0), "clashingMethod() = -9");
    }

    private static void hoistedTicks() {
        Script.play("22 exchanged ticks", call(2, 2) + keep(1, 0), "hoistedArguments(0) = 1; applyChange() = 1; run(0) = 2; temporaryCount(0) = 1");
        Script.play("22 kept order", call(2, 2, 1) + "hoistedArguments(0) = 3; " + keep(0, 1, 2), "hoistedArguments(0) = 0; applyChange() = 1; temporaryCount(0) = 0");
        Script.play("22 a removed tick", call(2, 0, 0) + keep(1, 2), "hoistedArguments(0) = 1; applyChange() = 1; ticks(0) = 1; temporaryCount(0) = 1; argumentKind(0,0) = 0");
        // The removed tick is hoisted, so that the tick before it must be hoisted as well.
        Script.play("22 before a removed tick", call(2, 2, 2) + keep(0, 2), "hoistedArguments(0) = 3; applyChange() = 1; ticks(0) = 3; run(0) = 6; argumentKind(0,0) = 3; argumentKind(0,1) = 2");
        Script.play("22 behind a removed tick", call(2, 2, 2) + keep(1, 2), "hoistedArguments(0) = 1; applyChange() = 1; ticks(0) = 3; run(0) = 8");
        Script.play("22 backwards", call(2, 2, 2, 2, 2) + keep(4, 3, 2, 1, 0), "hoistedArguments(0) = 15; applyChange() = 1; run(0) = 40; ticks(0) = 5; argumentKind(0,0) = 2; argumentKind(0,1) = 3; temporaryCount(0) = 4");
    }

    private static void hoistedReads() {
        Script.play("22 reads alone", call(1, 1, 1) + keep(2, 0), "hoistedArguments(0) = 0; applyChange() = 1; argumentCount(0) = 2");
        Script.play("22 a removed read", call(1, 2, 1) + keep(1), "hoistedArguments(0) = 0; applyChange() = 1; ticks(0) = 1; run(0) = 0; temporaryCount(0) = 0");
        Script.play("22 a read before a removed tick", call(1, 2) + keep(0), "hoistedArguments(0) = 3; applyChange() = 1; run(0) = 0; ticks(0) = 1; argumentKind(0,0) = 3");
        Script.play("22 a read behind a removed tick", call(2, 1) + keep(1), "hoistedArguments(0) = 1; applyChange() = 1; run(0) = 2; ticks(0) = 1; argumentKind(0,0) = 1");
        Script.play("22 a read overtaken by a tick", call(1, 2) + keep(1, 0), "hoistedArguments(0) = 1; applyChange() = 1; run(0) = 0; ticks(0) = 1");
        Script.play("22 a tick overtaken by a read", call(2, 1) + keep(1, 0), "hoistedArguments(0) = 1; applyChange() = 1; run(0) = 2; ticks(0) = 1");
        Script.play("22 a read between that is removed", call(2, 1, 2) + keep(2, 0), "hoistedArguments(0) = 1; applyChange() = 1; run(0) = 3");
    }

    private static void hoistedChoices() {
        // The tick overtakes all reads.
        Script.play("22 a tick to the front", call(1, 1, 1, 2) + keep(3, 0, 1, 2), "hoistedArguments(0) = 7; applyChange() = 1; run(0) = 0; ticks(0) = 1");
        Script.play("22 the first tick to the back", call(2, 1, 1, 1) + keep(1, 2, 3, 0), "hoistedArguments(0) = 1; applyChange() = 1; run(0) = 9; ticks(0) = 1");
        Script.play("22 constants stay", call(2, 0, 2, 0) + keep(3, 2, 1, 0), "hoistedArguments(0) = 1; applyChange() = 1; run(0) = 3; argumentKind(0,0) = 0; argumentKind(0,1) = 2; argumentKind(0,2) = 0; argumentKind(0,3) = 3");
        // To hoist the tick 2 the arguments 0 and 1 before it go along; argument 3 stays.
        Script.play("22 those before go along", call(1, 2, 2, 1) + keep(0, 1, 3, 2), "hoistedArguments(0) = 7; applyChange() = 1; run(0) = 11; ticks(0) = 2");
        // The reads keep their place, but the hoisted tick would overtake them.
        Script.play("22 a read before a hoisted tick", call(1, 1, 2, 2) + keep(0, 1, 3, 2), "hoistedArguments(0) = 7");
        Script.play("22 inserted between", call(2, 2) + "insertParameter(5) = 2; keepParameter(1) = 2; insertParameter(6) = 3; keepParameter(0) = 4; ", "hoistedArguments(0) = 1; applyChange() = 1; run(0) = 41; argumentKind(0,0) = 0; argumentKind(0,1) = 2; argumentKind(0,2) = 0; argumentKind(0,3) = 3");
    }

    private static void hoistedWithout() {
        Script.play("22 wrong", "hoistedArguments(0) = -1; declareType(0,-1,0) = 0; declareMethod(0,0,2) = 0; declareMethod(0,1,2) = 1; declareCall(0,0,0,2) = 0; declareCall(0,0,1,2) = 1; setArgument(0,0,2,0) = 0; setArgument(1,0,2,0) = 0",
            "hoistedArguments(0) = -2; hoistedArguments(2) = -1; hoistedArguments(-1) = -1; startChange(0) = 1; hoistedArguments(0) = 1; hoistedArguments(1) = 0; hoistedArguments(2) = -1; hoistedArguments(32) = -1; startChange(1) = 1; hoistedArguments(0) = 0; hoistedArguments(1) = 1",
            "setFrozen(1,1) = 1; hoistedArguments(1) = -2; startChange(1) = 1; hoistedArguments(1) = 0; hoistedArguments(0) = 0");
    }

    private static void bridges() {
        Script.play("23 none", "bridgeTypes() = -2; declareType(0,-1,0) = 0; declareMethod(0,0,1) = 0; declareMethod(0,1,1) = 1; declareCall(0,0,0,1) = 0; declareCall(0,0,1,1) = 1; setFrozen(1,1) = 1; bridgeTypes() = -2; startChange(0) = 1; bridgeTypes() = 0; startChange(1) = 1; bridgeTypes() = 1");
        // The interface 2 is over both 0 and 1, so that a call with it needs only one of the three.
        String net = "declareType(1,-1,0) = 0; declareType(1,-1,0) = 1; declareType(1,-1,3) = 2; declareType(0,-1,4) = 3; declareType(0,-1,1) = 4; ";
        Script.play("23 fewest", net + "declareMethod(1,0,1) = 0; declareMethod(0,0,1) = 1; declareMethod(2,0,1) = 2; declareCall(1,3,0,1) = 0; declareCall(0,4,0,1) = 1; declareCall(2,3,0,1) = 2; declareCall(3,3,0,1) = 3",
            "setFrozen(3,1) = 1; startChange(0) = 3; bridgeTypes() = 1; setFrozen(2,1) = 2; startChange(0) = 3; bridgeTypes() = 1; setFrozen(0,1) = 3; startChange(0) = 3; bridgeTypes() = 2; setFrozen(1,1) = 4; startChange(2) = 3; bridgeTypes() = 3",
            "setFrozen(0,0) = 3; startChange(1) = 3; bridgeTypes() = 1");
        Script.play("23 only declaring types", "declareType(0,-1,0) = 0; declareType(0,0,0) = 1; declareType(0,1,0) = 2; declareMethod(1,0,0) = 0; declareMethod(2,0,0) = 1; declareCall(2,2,0,0) = 0; setFrozen(0,1) = 1; startChange(1) = 2; bridgeTypes() = 2; insertParameter(3) = 0; bridgeTypes() = 2; applyChange() = 0; startChange(0) = 2; bridgeTypes() = 2; run(0) = 2003");
        // One of the types 0 and 1 serves one call, one of 2 and 3 the other; of the four pairs {0,2} is the smallest.
        Script.play("23 the smallest number", "declareType(1,-1,0) = 0; declareType(1,-1,0) = 1; declareType(1,-1,0) = 2; declareType(1,-1,0) = 3; declareType(0,-1,3) = 4; declareType(0,-1,12) = 5; declareType(0,-1,15) = 6",
            "declareMethod(3,0,0) = 0; declareMethod(2,0,0) = 1; declareMethod(1,0,0) = 2; declareMethod(0,0,0) = 3; declareCall(5,5,0,0) = 0; declareCall(4,4,0,0) = 1; setFrozen(0,1) = 1; setFrozen(1,1) = 2; startChange(0) = 4; bridgeTypes() = 5; setFrozen(1,0) = 1; startChange(0) = 4; bridgeTypes() = 4");
    }

    private static void applied() {
        Script.play("24 the whole family", "declareType(0,-1,0) = 0; declareType(0,0,0) = 1; declareType(0,-1,0) = 2; declareMethod(0,0,2) = 0; declareMethod(1,0,2) = 1; declareMethod(2,0,2) = 2; declareMethod(1,0,3) = 3; declareCall(0,0,0,2) = 0; declareCall(1,1,0,2) = 1; declareCall(2,2,0,2) = 2; declareCall(1,1,0,3) = 3",
            "startChange(1) = 2; keepParameter(1) = 1; applyChange() = 2; parameterCount(0) = 1; parameterCount(1) = 1; parameterCount(2) = 2; parameterCount(3) = 3; parameterKey(0,0) = 1; parameterKey(1,0) = 1; argumentCount(0) = 1; argumentCount(1) = 1; argumentCount(2) = 2; argumentCount(3) = 3; family(0) = 3; applyChange() = -2");
        Script.play("24 inserted arguments", "declareType(0,-1,0) = 0; declareMethod(0,0,1) = 0; declareCall(0,0,0,1) = 0; setArgument(0,0,0,5) = 0; startChange(0) = 1; insertParameter(7) = 1; keepParameter(0) = 2; insertParameter(-3) = 2; applyChange() = 1; run(0) = 10; argumentKind(0,0) = 0; setArgument(0,0,0,1) = 0; run(0) = -2");
        Script.play("24 nothing changes", "declareType(0,-1,0) = 0; declareMethod(0,0,1) = 0; declareCall(0,0,0,1) = 0; declareCall(0,0,0,1) = 1; setArgument(0,0,2,0) = 0; startChange(0) = 1; keepParameter(0) = 1; applyChange() = 2; argumentKind(0,0) = 2; undo() = 5");
        Script.play("24 constants go along", "declareType(0,-1,0) = 0; declareMethod(0,0,3) = 0; declareCall(0,0,0,3) = 0; setArgument(0,0,0,1) = 0; setArgument(0,1,0,2) = 0; setArgument(0,2,0,3) = 0; run(0) = 14; startChange(0) = 1", keep(2, 0, 1), "applyChange() = 1; run(0) = 14; setArgument(0,0,0,0) = 0; run(0) = 5; startChange(0) = 1", keep(1, 2), "applyChange() = 1; run(0) = 5; setArgument(0,1,0,0) = 0; run(0) = 1");
        Script.play("24 no draft, and the clash stays a draft", "declareType(0,-1,0) = 0; declareMethod(0,0,1) = 0; declareMethod(0,0,2) = 1; applyChange() = -2; startChange(0) = 1; keepParameter(0) = 1; insertParameter(0) = 1; applyChange() = -2; applyChange() = -2; clashingMethod() = 1; insertParameter(0) = 2; applyChange() = 0; parameterCount(0) = 3");
    }

    private static void appliedToFrozen() {
        String frozen = "declareType(0,-1,0) = 0; declareMethod(0,0,2) = 0; declareCall(0,0,0,2) = 0; setFrozen(0,1) = 1; declareCall(0,0,0,2) = 1; setArgument(1,0,0,4) = 0; startChange(0) = 1; ";
        Script.play("24 the same keys in their order", frozen + keep(0, 1), "applyChange() = 1; setFrozen(0,0) = 0");
        Script.play("24 another order", frozen + keep(1, 0), "applyChange() = -2; insertParameter(2) = 2; applyChange() = 1; run(0) = 6; run(1) = 10; argumentCount(0) = 2; argumentCount(1) = 3");
        Script.play("24 another key", frozen + keep(0), "insertParameter(0) = 2; applyChange() = -2; clashingMethod() = -9; insertParameter(0) = 3; applyChange() = 1");
        Script.play("24 another first key", frozen + "insertParameter(0) = 2; keepParameter(1) = 2; applyChange() = -2; clashingMethod() = -9; bridgeTypes() = 1; keepParameter(0) = 3; applyChange() = 1");
        Script.play("24 none kept", frozen + "insertParameter(0) = 2; insertParameter(0) = 3; applyChange() = -2; undo() = 5; setFrozen(0,0) = 0; startChange(0) = 1; insertParameter(0) = 2; insertParameter(0) = 3; applyChange() = 2");
        Script.play("24 fewer", frozen + keep(1), "applyChange() = 1; run(0) = 0; run(1) = 0; argumentCount(0) = 2; argumentCount(1) = 1");
        Script.play("24 no parameters", "declareType(0,-1,0) = 0; declareMethod(0,0,0) = 0; declareCall(0,0,0,0) = 0; setFrozen(0,1) = 1; startChange(0) = 1; applyChange() = 0; startChange(0) = 1; insertParameter(2) = 0; applyChange() = 0; run(0) = 2");
        Script.play("24 another family is frozen", frozen + "declareMethod(0,1,2) = 1; startChange(1) = 1; " + keep(1, 0), "applyChange() = 0; parameterKey(1,0) = 1");
    }

    private static void appliedTemporaries() {
        // tick 0 becomes the temporary 0; then tick 1 is hoisted behind it, and the first stays where it is.
        Script.play("24 more temporaries", call(2, 2, 2) + keep(2, 1, 0), "hoistedArguments(0) = 3; applyChange() = 1; run(0) = 8; argumentKind(0,0) = 2; argumentKind(0,1) = 3; argumentKind(0,2) = 3; startChange(0) = 1; keepParameter(1) = 1; keepParameter(2) = 2; hoistedArguments(0) = 1; applyChange() = 1",
            "temporaryCount(0) = 3; ticks(0) = 3; argumentCount(0) = 2; argumentKind(0,0) = 3; argumentKind(0,1) = 3; run(0) = 2; startChange(0) = 1; keepParameter(1) = 1; hoistedArguments(0) = 0; applyChange() = 1; run(0) = 0; ticks(0) = 3; temporaryCount(0) = 3");
        Script.play("24 each its temporary", call(2, 1, 2, 1, 2) + keep(3, 4, 1, 0, 2), "hoistedArguments(0) = 7; applyChange() = 1; temporaryCount(0) = 3; argumentKind(0,0) = 1; argumentKind(0,1) = 2; argumentKind(0,2) = 3; argumentKind(0,3) = 3; argumentKind(0,4) = 3; run(0) = 23; ticks(0) = 3",
            "startChange(0) = 1; keepParameter(4) = 1; applyChange() = 1; run(0) = 3; ticks(0) = 3; temporaryCount(0) = 4");
    }

    private static void temporaryLimit() {
        Script five = Script.play("24 limit", "declareType(0,-1,0) = 0; declareMethod(0,0,5) = 0; declareMethod(0,1,0) = 1; declareCall(0,0,0,5) = 0; declareCall(0,0,0,5) = 1");
        for (int argument = 0; argument < 5; argument++) {
            five.then("setArgument(1," + argument + ",2,0) = 0");
        }
        five.then("startChange(0) = 1; insertParameter(0) = 5; insertParameter(0) = 6; insertParameter(0) = 7; insertParameter(0) = 8; hoistedArguments(1) = 31; applyChange() = 2; temporaryCount(1) = 5; temporaryCount(0) = 0")
            .then("setArgument(1,0,2,0) = 0; setArgument(1,1,2,0) = 0; setArgument(1,2,2,0) = 0; setArgument(1,3,2,0) = 0; setArgument(0,0,2,0) = 0; startChange(0) = 1; hoistedArguments(1) = 15; applyChange() = -3; keepParameter(3) = 1; hoistedArguments(1) = 7; hoistedArguments(0) = 1")
            .then("applyChange() = 2; temporaryCount(1) = 8; temporaryCount(0) = 1; ticks(1) = 9; run(1) = 72; startChange(0) = 1; applyChange() = -3; parameterCount(0) = 1; temporaryCount(0) = 1; argumentCount(0) = 1")
            .then("keepParameter(0) = 1; keepParameter(0) = -2; applyChange() = 2; temporaryCount(1) = 8; setFrozen(1,1) = 1; startChange(0) = 1; applyChange() = 1; parameterCount(0) = 0; argumentCount(0) = 0; argumentCount(1) = 1");
        // A clash, or a frozen call that breaks, comes before the limit.
        Script.play("24 state before limit", call(2, 2, 2, 2, 2) + "applyChange() = 1; startChange(0) = 1; insertParameter(0) = 0; insertParameter(0) = 1; insertParameter(0) = 2; insertParameter(0) = 3; applyChange() = 1",
            "setArgument(0,0,2,0) = 0; setArgument(0,1,2,0) = 0; setArgument(0,2,2,0) = 0; setArgument(0,3,2,0) = 0; declareMethod(0,0,0) = 1; startChange(0) = 1; applyChange() = -2; insertParameter(0) = 4; applyChange() = -3; keepParameter(3) = 2; applyChange() = 1; temporaryCount(0) = 8");
    }

    private static void editsRemoveTheDraft() {
        String start = "declareType(0,-1,0) = 0; declareMethod(0,0,2) = 0; declareCall(0,0,0,2) = 0; startChange(0) = 1; keepParameter(1) = 1; ";
        String[] edits = {"declareType(0,-1,0) = 1", "declareMethod(0,0,1) = 1", "declareCall(0,0,0,2) = 1", "setArgument(0,0,0,0) = 0", "setFrozen(0,1) = 1", "applyChange() = 1", "undo() = 2"};
        for (String edit : edits) {
            Script.play("draft removed by " + edit, start + edit, "keepParameter(0) = -2; insertParameter(0) = -2; clashingMethod() = -2; bridgeTypes() = -2; applyChange() = -2; undo() = " + (edit.startsWith("undo") ? 1 : 3));
        }
        String[] errors = {"declareType(0,1,0) = -1", "declareMethod(0,0,2) = -2", "declareCall(0,0,0,1) = -2", "setArgument(0,0,0,100) = -1", "setFrozen(0,0) = -2", "startChange(1) = -1", "keepParameter(1) = -2", "insertParameter(-100) = -1", "hoistedArguments(1) = -1"};
        for (String error : errors) {
            Script.play("draft stays at " + error, start + error, "hoistedArguments(0) = 0; keepParameter(0) = 2; applyChange() = 1; parameterKey(0,0) = 1; undo() = 3");
        }
    }
}
