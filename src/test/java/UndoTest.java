/** Promise 25 undo, and that a call that returns an error changes nothing. */
public final class UndoTest {
    public static void main(String[] arguments) {
        eachEdit();
        eightEdits();
        editsAfterUndo();
        errorsAreNoEdits();
        undoneRowsAreNew();
        draftAtFailedUndo();
        Due.end();
    }

    private static void eachEdit() {
        Script.play("25 each edit", "declareType(1,-1,0) = 0; undo() = 0; undo() = -2; typeCount() = 0; declareType(0,-1,0) = 0; declareMethod(0,0,2) = 0; undo() = 1; family(0) = -1; declareMethod(0,0,2) = 0; declareCall(0,0,0,2) = 0; undo() = 2; argumentCount(0) = -1; declareCall(0,0,0,2) = 0",
            "setArgument(0,1,0,9) = 0; run(0) = 18; setArgument(0,1,2,0) = 0; run(0) = 0; undo() = 4; run(0) = 18; undo() = 3; run(0) = 0; setFrozen(0,1) = 1; undo() = 3; setFrozen(0,0) = -2; setFrozen(0,1) = 1; setFrozen(0,0) = 0; undo() = 4; setFrozen(0,1) = -2; undo() = 3");
        Script.play("25 a change", "declareType(0,-1,0) = 0; declareMethod(0,0,2) = 0; declareCall(0,0,0,2) = 0; setArgument(0,0,2,0) = 0; setArgument(0,1,2,0) = 0; startChange(0) = 1; keepParameter(1) = 1; insertParameter(4) = 2; applyChange() = 1; temporaryCount(0) = 1; run(0) = 14; undo() = 5",
            "temporaryCount(0) = 0; argumentCount(0) = 2; argumentKind(0,0) = 2; run(0) = 2; parameterCount(0) = 2; parameterKey(0,0) = 0; parameterKey(0,1) = 1; applyChange() = -2; undo() = 4; argumentKind(0,1) = 0; setFrozen(0,1) = 1; setFrozen(0,0) = 0");
        Script.play("25 another length", "declareType(0,-1,0) = 0; declareMethod(0,0,2) = 0; declareCall(0,0,0,2) = 0; setArgument(0,0,0,3) = 0; setArgument(0,1,0,4) = 0; run(0) = 11; startChange(0) = 1; keepParameter(1) = 1; applyChange() = 1; run(0) = 8; argumentCount(0) = 1; undo() = 5; argumentCount(0) = 2; run(0) = 11; parameterCount(0) = 2");
        // Only a frozen call without an argument for it shows a default value.
        Script.play("25 default values", "declareType(0,-1,0) = 0; declareMethod(0,0,0) = 0; declareCall(0,0,0,0) = 0; setFrozen(0,1) = 1; startChange(0) = 1; insertParameter(7) = 0; applyChange() = 0; run(0) = 7; startChange(0) = 1; applyChange() = 0; run(0) = 0; startChange(0) = 1; insertParameter(9) = 0; applyChange() = 0; run(0) = 9; undo() = 6; run(0) = 0; undo() = 5; run(0) = 7");
        Script.play("25 equal edits count", "declareType(0,-1,0) = 0; declareMethod(0,0,1) = 0; declareCall(0,0,0,1) = 0; setArgument(0,0,0,0) = 0; undo() = 3; startChange(0) = 1; keepParameter(0) = 1; applyChange() = 1; undo() = 3");
    }

    private static void eightEdits() {
        Script.play("25 eight", "declareType(0,-1,0) = 0; declareMethod(0,0,1) = 0; declareCall(0,0,0,1) = 0").then("setArgument(0,0,0,1) = 0; setArgument(0,0,0,2) = 0; setArgument(0,0,0,3) = 0; setArgument(0,0,0,4) = 0; setArgument(0,0,0,5) = 0; setArgument(0,0,0,6) = 0; setArgument(0,0,0,7) = 0; setArgument(0,0,0,8) = 0; setArgument(0,0,0,9) = 0; run(0) = 9",
            "undo() = 7; run(0) = 8; undo() = 6; undo() = 5; undo() = 4; undo() = 3; undo() = 2; undo() = 1; run(0) = 2; undo() = 0; run(0) = 1; undo() = -2; run(0) = 1; typeCount() = 1");
        Script.play("25 fewer than eight", "declareType(0,-1,0) = 0; declareType(0,-1,0) = 1; declareType(0,-1,0) = 2; undo() = 2; undo() = 1; undo() = 0; undo() = -2; typeCount() = 0");
    }

    private static void editsAfterUndo() {
        Script script = Script.play("25 edits after undo", "declareType(0,-1,0) = 0; declareMethod(0,0,1) = 0; declareCall(0,0,0,1) = 0");
        for (int value = 1; value <= 20; value++) {
            script.then("setArgument(0,0,0," + value + ") = 0");
        }
        script.then("undo() = 7; undo() = 6; undo() = 5; run(0) = 17; setArgument(0,0,0,50) = 0; undo() = 5; run(0) = 17; setArgument(0,0,0,51) = 0; setArgument(0,0,0,52) = 0; setArgument(0,0,0,53) = 0; setArgument(0,0,0,54) = 0",
            "undo() = 7; run(0) = 53; undo() = 6; undo() = 5; undo() = 4; run(0) = 17; undo() = 3; run(0) = 16; undo() = 2; undo() = 1; undo() = 0; run(0) = 13; undo() = -2");
    }

    private static void errorsAreNoEdits() {
        Script.play("25 errors are no edits", "declareType(0,-1,0) = 0; declareMethod(0,0,1) = 0; declareCall(0,0,0,1) = 0; declareType(2,0,0) = -1; declareMethod(0,0,1) = -2; declareCall(0,0,0,0) = -2; setArgument(0,0,0,100) = -1; setFrozen(0,0) = -2; applyChange() = -2",
            "startChange(0) = 1; keepParameter(0) = 1; insertParameter(0) = 1; clashingMethod() = -9; hoistedArguments(0) = 0; bridgeTypes() = 0; undo() = 2; argumentCount(0) = -1; undo() = 1; parameterCount(0) = -1; undo() = 0; typeCount() = 0");
    }

    /** What was declared, set, frozen or rewritten and then undone leaves no trace in the next one. */
    private static void undoneRowsAreNew() {
        Script.play("25 a new row", "declareType(0,-1,0) = 0; declareMethod(0,0,2) = 0; declareCall(0,0,0,2) = 0; setArgument(0,0,2,0) = 0; setArgument(0,1,0,5) = 0; startChange(0) = 1; applyChange() = 1; setFrozen(0,1) = 1; temporaryCount(0) = 1",
            "undo() = 6; undo() = 5; undo() = 4; undo() = 3; undo() = 2; declareCall(0,0,0,2) = 0; temporaryCount(0) = 0; argumentCount(0) = 2; argumentKind(0,0) = 0; run(0) = 0; ticks(0) = 0; setFrozen(0,0) = -2; setFrozen(0,1) = 1",
            "undo() = 3; undo() = 2; undo() = 1; undo() = 0; declareType(1,-1,0) = 0; declareType(0,0,0) = -1; undo() = 0; declareType(0,-1,0) = 0; declareType(0,0,0) = 1; isSubtype(1,0) = 1; undo() = 1; declareType(0,-1,0) = 1; isSubtype(1,0) = 0");
    }

    private static void draftAtFailedUndo() {
        Script script = Script.play("25 a failed undo changes nothing", "declareType(0,-1,0) = 0; declareMethod(0,0,1) = 0");
        for (int type = 1; type < 8; type++) {
            script.then("declareType(0,-1,0) = " + type);
        }
        script.then("declareMethod(0,1,1) = 1; undo() = 7; undo() = 6; undo() = 5; undo() = 4; undo() = 3; undo() = 2; undo() = 1; undo() = 0",
            "startChange(0) = 1; keepParameter(0) = 1; undo() = -2; keepParameter(0) = -2; insertParameter(2) = 1; applyChange() = 0; parameterCount(0) = 2; undo() = 0; parameterCount(0) = 1");
    }
}
