/** Promises 1 "A new object", 2 declareType, 7 typeCount and 8 isSubtype. */
public final class TypeTest {
    public static void main(String[] arguments) {
        newObject();
        kindsAndNumbers();
        wrongArguments();
        subtypes();
        connectedLists();
        connectedDefaults();
        limit();
        Due.end();
    }

    private static void newObject() {
        Script.play("1 new object", "typeCount() = 0; isSubtype(0,0) = -1; family(0) = -1; parameterCount(0) = -1");
        Script.play("1 no calls", "dispatch(0) = -1; run(0) = 0; ticks(0) = -1; argumentCount(0) = -1; temporaryCount(0) = -1");
        Script.play("1 no draft", "keepParameter(0) = -2; insertParameter(0) = -2; clashingMethod() = -2; bridgeTypes() = -2; applyChange() = -2");
        Script.play("1 nothing to undo", "undo() = -2; startChange(0) = -1");
        Due.is("INVALID_ARGUMENT", -1, SignatureChanger.INVALID_ARGUMENT);
        Due.is("INVALID_STATE", -2, SignatureChanger.INVALID_STATE);
        Due.is("LIMIT_REACHED", -3, SignatureChanger.LIMIT_REACHED);
        Due.is("NONE", -9, SignatureChanger.NONE);
    }

    private static void kindsAndNumbers() {
        Script.play("2 numbers", "declareType(0,-1,0) = 0; declareType(1,-1,0) = 1; declareType(0,0,2) = 2; declareType(1,-1,2) = 3; typeCount() = 4");
        Script.play("2 many interfaces", "declareType(1,-1,0) = 0; declareType(1,-1,0) = 1; declareType(1,-1,0) = 2; declareType(0,-1,7) = 3; declareType(1,-1,5) = 4");
    }

    private static void wrongArguments() {
        Script.play("2 wrong kind", "declareType(2,-1,0) = -1; declareType(-1,-1,0) = -1; declareType(2147483647,-1,0) = -1");
        Script.play("2 wrong superclass", "declareType(1,-1,0) = 0; declareType(0,-1,0) = 1",
            "declareType(0,0,0) = -1; declareType(1,1,0) = -1; declareType(1,0,0) = -1; declareType(0,2,0) = -1; declareType(0,-2,0) = -1",
            "declareType(1,-2,0) = -1; declareType(0,2147483647,0) = -1; declareType(0,-2147483648,0) = -1; declareType(0,33,0) = -1");
        Script.play("2 wrong interfaces", "declareType(1,-1,0) = 0; declareType(0,-1,0) = 1",
            "declareType(0,-1,2) = -1; declareType(0,-1,3) = -1; declareType(0,-1,4) = -1; declareType(0,-1,-1) = -1",
            "declareType(1,-1,2) = -1; declareType(0,-1,256) = -1; declareType(0,-1,-2147483648) = -1; declareType(0,-1,5) = -1; typeCount() = 2");
    }

    private static void subtypes() {
        // 0 interface, 1 interface over 0, 2 class with 1, 3 class below 2, 4 interface, 5 class below 3 with 4
        Script.play("8 subtypes", "declareType(1,-1,0) = 0; declareType(1,-1,1) = 1; declareType(0,-1,2) = 2; declareType(0,2,0) = 3; declareType(1,-1,0) = 4; declareType(0,3,16) = 5",
            "isSubtype(0,0) = 1; isSubtype(1,0) = 1; isSubtype(0,1) = 0; isSubtype(2,1) = 1; isSubtype(2,0) = 1; isSubtype(3,2) = 1",
            "isSubtype(3,0) = 1; isSubtype(3,4) = 0; isSubtype(4,0) = 0; isSubtype(5,0) = 1; isSubtype(5,1) = 1; isSubtype(5,2) = 1",
            "isSubtype(5,3) = 1; isSubtype(5,4) = 1; isSubtype(5,5) = 1; isSubtype(4,5) = 0; isSubtype(2,3) = 0",
            "isSubtype(6,0) = -1; isSubtype(0,6) = -1; isSubtype(-1,0) = -1; isSubtype(0,-1) = -1; isSubtype(32,0) = -1; isSubtype(0,32) = -1");
    }

    private static void connectedLists() {
        // The interface's method loses key 0, so that its list is key 1 alone; the class has key 0 alone.
        Script.play("2 connects different keys", "declareType(1,-1,0) = 0; declareType(0,-1,0) = 1; declareMethod(0,0,2) = 0; declareMethod(1,0,1) = 1",
            "startChange(0) = 1; keepParameter(1) = 1; applyChange() = 0",
            "declareType(0,1,1) = -2; typeCount() = 2; declareType(0,1,0) = 2; declareType(0,-1,1) = 3; declareType(0,2,1) = -2",
            "startChange(1) = 1; insertParameter(0) = 1; applyChange() = 0; family(0) = 1; declareType(0,2,1) = 4; family(0) = 3");
        Script.play("2 other signatures do not matter", "declareType(1,-1,0) = 0; declareType(0,-1,0) = 1; declareMethod(0,0,2) = 0; declareMethod(1,1,1) = 1",
            "startChange(0) = 1; keepParameter(1) = 1; applyChange() = 0; declareMethod(1,0,2) = 2; declareType(0,1,1) = 2; family(0) = 1");
        Script.play("2 one list may be shared", "declareType(1,-1,0) = 0; declareType(1,-1,0) = 1; declareType(1,-1,0) = 2",
            "declareMethod(0,3,2) = 0; declareMethod(1,3,2) = 1; declareMethod(2,3,2) = 2; startChange(2) = 1; keepParameter(1) = 1; keepParameter(0) = 2; applyChange() = 0",
            "declareType(0,-1,3) = 3; family(0) = 3; declareType(0,-1,7) = -2; declareType(1,-1,6) = -2; declareType(0,3,4) = -2");
    }

    private static void connectedDefaults() {
        Script.play("2 connects different default values", "declareType(1,-1,0) = 0; declareType(1,-1,0) = 1; declareMethod(0,0,0) = 0; declareMethod(1,0,1) = 1",
            "startChange(0) = 1; insertParameter(3) = 0; applyChange() = 0; parameterKey(0,0) = 0; parameterKey(1,0) = 0",
            "declareType(0,-1,3) = -2; undo() = 4; startChange(0) = 1; insertParameter(0) = 0; applyChange() = 0; declareType(0,-1,3) = 2; family(1) = 3");
    }

    private static void limit() {
        Script.play("2 limit", "declareType(1,-1,0) = 0; declareType(1,-1,0) = 1; declareMethod(0,0,0) = 0; declareMethod(1,0,1) = 1; startChange(0) = 1; insertParameter(1) = 0; applyChange() = 0",
            "declareType(0,-1,0) = 2; declareType(0,-1,0) = 3; declareType(0,-1,0) = 4; declareType(0,-1,0) = 5; declareType(0,-1,0) = 6; declareType(0,6,2) = 7",
            "declareType(0,-1,0) = -3; declareType(1,-1,3) = -2; declareType(1,-1,4) = -1; declareType(0,8,0) = -1; typeCount() = 8; isSubtype(7,1) = 1; isSubtype(7,0) = 0; isSubtype(7,8) = -1");
    }
}
