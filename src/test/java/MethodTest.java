/** Promises 3 declareMethod, 9 family, 10 parameterCount and 11 parameterKey. */
public final class MethodTest {
    public static void main(String[] arguments) {
        newLists();
        inheritedLists();
        wrongArguments();
        notPossible();
        limit();
        families();
        Due.end();
    }

    private static void newLists() {
        Script.play("3 a new list", "declareType(0,-1,0) = 0; declareMethod(0,5,5) = 0; declareMethod(0,0,0) = 1; declareMethod(0,0,2) = 2",
            "parameterCount(0) = 5; parameterCount(1) = 0; parameterCount(2) = 2",
            "parameterKey(0,0) = 0; parameterKey(0,1) = 1; parameterKey(0,2) = 2; parameterKey(0,3) = 3; parameterKey(0,4) = 4; parameterKey(2,1) = 1",
            "parameterKey(0,5) = -1; parameterKey(0,-1) = -1; parameterKey(1,0) = -1; parameterKey(2,2) = -1; parameterKey(3,0) = -1; parameterKey(-1,0) = -1",
            "parameterCount(3) = -1; parameterCount(-1) = -1; parameterCount(16) = -1; parameterKey(0,2147483647) = -1; parameterKey(-2147483648,0) = -1");
        // The default values of a new list are 0: a frozen call gives no value for a parameter added by a change.
        Script.play("3 default values 0", "declareType(0,-1,0) = 0; declareMethod(0,0,1) = 0; declareCall(0,0,0,1) = 0; setFrozen(0,1) = 1",
            "startChange(0) = 1; applyChange() = 0; undo() = 4; startChange(0) = 1; insertParameter(0) = 1; keepParameter(0) = 2; applyChange() = 0; run(0) = 0");
    }

    private static void inheritedLists() {
        Script.play("3 the list of the related", "declareType(0,-1,0) = 0; declareType(0,0,0) = 1; declareType(0,-1,0) = 2; declareMethod(0,1,2) = 0",
            "startChange(0) = 1; insertParameter(7) = 2; keepParameter(1) = 2; applyChange() = 0",
            "declareMethod(1,1,2) = 1; parameterKey(1,0) = 2; parameterKey(1,1) = 1; declareMethod(2,1,2) = 2; parameterKey(2,0) = 0; parameterKey(2,1) = 1",
            "declareMethod(1,1,1) = 3; parameterKey(3,0) = 0; declareMethod(1,2,2) = 4; parameterKey(4,0) = 0; family(0) = 3; family(2) = 4");
        Script.play("3 the default values of the related", "declareType(0,-1,0) = 0; declareType(0,0,0) = 1; declareMethod(0,0,1) = 0; declareCall(0,1,0,1) = 0; setFrozen(0,1) = 1",
            "startChange(0) = 1; insertParameter(-9) = 1; keepParameter(0) = 2; applyChange() = 0; run(0) = -18; declareMethod(1,0,2) = 1; dispatch(0) = 1; run(0) = 982");
        Script.play("3 related below", "declareType(1,-1,0) = 0; declareType(0,-1,1) = 1; declareMethod(1,0,2) = 0; startChange(0) = 1; keepParameter(1) = 1; applyChange() = 0",
            "declareMethod(0,0,1) = 1; parameterKey(1,0) = 1; family(1) = 3");
        Script.play("3 related beside", "declareType(1,-1,0) = 0; declareType(0,-1,0) = 1; declareType(0,1,1) = 2; declareMethod(1,0,2) = 0; startChange(0) = 1; keepParameter(1) = 1; applyChange() = 0",
            "declareMethod(0,0,1) = 1; parameterKey(1,0) = 1");
    }

    private static void wrongArguments() {
        Script.play("3 wrong arguments", "declareMethod(0,0,0) = -1; declareType(0,-1,0) = 0; declareMethod(1,0,0) = -1; declareMethod(-1,0,0) = -1",
            "declareMethod(0,6,0) = -1; declareMethod(0,-1,0) = -1; declareMethod(0,0,6) = -1; declareMethod(0,0,-1) = -1; declareMethod(32,0,0) = -1",
            "declareMethod(0,2147483647,0) = -1; declareMethod(0,0,-2147483648) = -1; family(0) = -1; declareMethod(0,5,5) = 0");
    }

    private static void notPossible() {
        Script.play("3 declared already", "declareType(0,-1,0) = 0; declareMethod(0,2,1) = 0; declareMethod(0,2,1) = -2; declareMethod(0,2,2) = 1; declareMethod(0,1,1) = 2",
            "startChange(1) = 1; keepParameter(0) = 1; keepParameter(1) = 2; insertParameter(0) = 2; applyChange() = 0; declareMethod(0,2,3) = -2; declareMethod(0,2,2) = 3");
        // The class 2 has no method itself, but would connect the interface and the class with different lists.
        Script.play("3 related lists differ", "declareType(1,-1,0) = 0; declareType(1,-1,0) = 1; declareMethod(0,0,1) = 0; declareMethod(1,0,2) = 1; declareType(0,-1,1) = 2; declareType(0,-1,2) = 3",
            "startChange(1) = 1; keepParameter(1) = 1; applyChange() = 0; declareType(1,-1,0) = 4; declareType(0,-1,17) = 5; declareType(0,-1,18) = 6; declareMethod(4,0,1) = -2",
            "startChange(1) = 1; insertParameter(0) = 0; applyChange() = 0; declareMethod(4,0,1) = 2; family(0) = 7");
        Script.play("3 related default values differ", "declareType(1,-1,0) = 0; declareType(1,-1,0) = 1; declareType(1,-1,0) = 2; declareType(0,-1,5) = 3; declareType(0,-1,6) = 4",
            "declareMethod(0,0,0) = 0; declareMethod(1,0,1) = 1; startChange(0) = 1; insertParameter(1) = 0; applyChange() = 0; declareMethod(2,0,1) = -2; family(0) = 1",
            "declareMethod(2,0,0) = 2");
    }

    private static void limit() {
        Script all = Script.play("3 limit", "declareType(0,-1,0) = 0; declareType(0,-1,0) = 1");
        for (int method = 0; method < 16; method++) {
            all.then("declareMethod(0," + method / 6 + "," + method % 6 + ") = " + method);
        }
        all.then("declareMethod(1,0,0) = -3; declareMethod(0,0,0) = -2; declareMethod(0,6,0) = -1; parameterCount(15) = 3; parameterCount(16) = -1; family(15) = 32768");
    }

    private static void families() {
        Script.play("9 chain of relations", "declareType(1,-1,0) = 0; declareType(1,-1,0) = 1; declareType(1,-1,0) = 2; declareType(0,-1,3) = 3; declareType(0,-1,6) = 4",
            "declareMethod(0,0,1) = 0; declareMethod(2,0,1) = 1; family(0) = 1; family(1) = 2; declareMethod(1,0,1) = 2; family(0) = 7; family(1) = 7; family(2) = 7",
            "family(3) = -1; family(-1) = -1; family(32) = -1");
        Script.play("9 no relation", "declareType(0,-1,0) = 0; declareType(0,0,0) = 1; declareType(0,0,0) = 2; declareMethod(1,0,0) = 0; declareMethod(2,0,0) = 1; declareMethod(0,1,0) = 2; declareMethod(0,0,1) = 3",
            "family(0) = 1; family(1) = 2; family(2) = 4; family(3) = 8; declareMethod(0,0,0) = 4; family(0) = 19; family(1) = 19; family(4) = 19");
        Script.play("9 long chain", "declareType(1,-1,0) = 0; declareType(1,-1,0) = 1; declareType(1,-1,0) = 2; declareType(1,-1,0) = 3",
            "declareType(0,-1,3) = 4; declareType(0,-1,6) = 5; declareType(0,-1,12) = 6",
            "declareMethod(3,4,3) = 0; declareMethod(2,4,3) = 1; declareMethod(1,4,3) = 2; declareMethod(0,4,3) = 3; family(0) = 15; family(3) = 15; startChange(3) = 4");
        Script.play("9 the chain needs a method in each link", "declareType(1,-1,0) = 0; declareType(1,-1,0) = 1; declareType(1,-1,0) = 2; declareType(0,-1,3) = 3; declareType(0,-1,6) = 4",
            "declareMethod(0,0,1) = 0; declareMethod(2,0,1) = 1; declareMethod(1,1,1) = 2; declareMethod(1,0,2) = 3; family(0) = 1; startChange(1) = 1");
    }
}
