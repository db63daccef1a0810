/** Promises 4 declareCall, 5 setArgument, 6 setFrozen, and 12 dispatch to 17 temporaryCount. */
public final class CallTest {
    private static final String ONE_CALL = "declareType(0,-1,0) = 0; declareMethod(0,0,3) = 0; declareCall(0,0,0,3) = 0";

    public static void main(String[] arguments) {
        declaredCalls();
        wrongCalls();
        targets();
        callLimit();
        argumentsSet();
        wrongSetArgument();
        frozenCalls();
        unfreezing();
        dispatchInClasses();
        dispatchInInterfaces();
        runs();
        runsOfFrozenCalls();
        answersWithoutCall();
        Due.end();
    }

    private static void declaredCalls() {
        Script.play("4 arguments are CONSTANT 0", ONE_CALL, "argumentCount(0) = 3; argumentKind(0,0) = 0; argumentKind(0,1) = 0; argumentKind(0,2) = 0; temporaryCount(0) = 0; run(0) = 0; ticks(0) = 0",
            "setFrozen(0,0) = -2; declareCall(0,0,0,3) = 1");
        Script.play("4 arguments have the present keys", "declareType(0,-1,0) = 0; declareMethod(0,0,2) = 0; startChange(0) = 1; insertParameter(4) = 2; keepParameter(1) = 2; applyChange() = 0",
            "declareCall(0,0,0,2) = 0; run(0) = 0; setArgument(0,0,0,10) = 0; run(0) = 30; setArgument(0,1,0,1) = 0; run(0) = 32");
    }

    private static void wrongCalls() {
        // 0 interface with method, 1 class with it, 2 class below 1, 3 another class
        Script.play("4 wrong", "declareType(1,-1,0) = 0; declareType(0,-1,1) = 1; declareType(0,1,0) = 2; declareType(0,-1,0) = 3; declareMethod(0,1,1) = 0; declareMethod(2,2,0) = 1",
            "declareCall(4,1,1,1) = -1; declareCall(-1,1,1,1) = -1; declareCall(0,4,1,1) = -1; declareCall(0,-1,1,1) = -1; declareCall(0,1,6,1) = -1; declareCall(0,1,-1,1) = -1; declareCall(0,1,1,6) = -1; declareCall(0,1,1,-1) = -1",
            "declareCall(32,1,1,1) = -1; declareCall(0,33,1,1) = -1; declareCall(0,2147483647,1,1) = -1",
            "declareCall(0,0,1,1) = -2; declareCall(2,1,1,1) = -2; declareCall(0,3,1,1) = -2; declareCall(0,1,1,0) = -2; declareCall(0,1,0,1) = -2; declareCall(1,2,2,0) = -2; declareCall(3,3,1,1) = -2; argumentCount(0) = -1",
            "declareCall(0,1,1,1) = 0; declareCall(0,2,1,1) = 1; declareCall(1,1,1,1) = 2; declareCall(2,2,2,0) = 3; argumentCount(3) = 0");
    }

    private static void targets() {
        // Two methods fit the static type 2; the smaller number is the target, though it is further away.
        Script.play("4 smallest target", "declareType(0,-1,0) = 0; declareType(0,0,0) = 1; declareType(0,1,0) = 2; declareMethod(0,0,1) = 0; declareMethod(1,0,1) = 1; declareMethod(2,0,1) = 2",
            "declareCall(2,2,0,1) = 0; dispatch(0) = 2; setFrozen(0,1) = 1; startChange(1) = 3; bridgeTypes() = 1");
        Script.play("4 the target stays the same method", "declareType(0,-1,0) = 0; declareMethod(0,0,1) = 0; declareCall(0,0,0,1) = 0; startChange(0) = 1; keepParameter(0) = 1; insertParameter(5) = 1; applyChange() = 1",
            "declareMethod(0,0,1) = 1; dispatch(0) = 0; run(0) = 10; declareCall(0,0,0,1) = 1; dispatch(1) = 1; run(1) = 0; declareCall(0,0,0,2) = 2; dispatch(2) = 0");
    }

    private static void callLimit() {
        Script full = Script.play("4 limit", "declareType(0,-1,0) = 0; declareMethod(0,0,0) = 0");
        for (int call = 0; call < 8; call++) {
            full.then("declareCall(0,0,0,0) = " + call);
        }
        full.then("declareCall(0,0,0,0) = -3; declareCall(0,0,0,1) = -2; declareCall(0,1,0,0) = -1; run(7) = 0; ticks(7) = 0; ticks(8) = -1");
    }

    private static void argumentsSet() {
        Script.play("5 kinds", ONE_CALL, "setArgument(0,0,1,0) = 0; setArgument(0,0,2,0) = 1; setArgument(0,0,0,-99) = 2; setArgument(0,0,0,99) = 0; run(0) = 99",
            "setArgument(0,2,0,-99) = 0; run(0) = -198; argumentKind(0,2) = 0; setArgument(0,1,2,0) = 0; argumentKind(0,1) = 2; setArgument(0,2,1,0) = 0; argumentKind(0,2) = 1; run(0) = 102");
        Script.play("5 a tick takes no old value", ONE_CALL, "setArgument(0,0,0,50) = 0; setArgument(0,0,2,0) = 0; run(0) = 0; setArgument(0,0,0,7) = 2; run(0) = 7; setArgument(0,0,1,0) = 0; run(0) = 0");
        Script.play("5 each call has its own", ONE_CALL, "declareCall(0,0,0,3) = 1; setArgument(1,0,0,4) = 0; run(0) = 0; run(1) = 4; argumentKind(0,0) = 0; setArgument(0,2,2,0) = 0; ticks(1) = 0; ticks(0) = 1");
    }

    private static void wrongSetArgument() {
        Script.play("5 wrong", ONE_CALL, "setArgument(1,0,0,0) = -1; setArgument(-1,0,0,0) = -1; setArgument(0,3,0,0) = -1; setArgument(0,-1,0,0) = -1; setArgument(0,0,3,0) = -1; setArgument(0,0,-1,0) = -1; setArgument(0,0,4,0) = -1",
            "setArgument(0,0,0,100) = -1; setArgument(0,0,0,-100) = -1; setArgument(0,0,1,1) = -1; setArgument(0,0,2,-1) = -1; setArgument(0,0,0,2147483647) = -1; setArgument(0,0,0,-2147483648) = -1; setArgument(32,0,0,0) = -1; setArgument(0,2147483647,0,0) = -1",
            "setFrozen(0,1) = 1; setArgument(0,0,0,1) = -2; setArgument(0,0,0,100) = -1; setArgument(0,3,0,1) = -1; setArgument(0,0,3,0) = -1; setFrozen(0,0) = 0; setArgument(0,0,0,1) = 0");
        Script.play("5 a temporary", "declareType(0,-1,0) = 0; declareMethod(0,0,2) = 0; declareCall(0,0,0,2) = 0; setArgument(0,0,2,0) = 0; setArgument(0,1,2,0) = 0; startChange(0) = 1; keepParameter(1) = 1; keepParameter(0) = 2; applyChange() = 1",
            "argumentKind(0,1) = 3; setArgument(0,1,0,0) = -2; setArgument(0,1,3,0) = -1; setArgument(0,1,0,100) = -1; setArgument(0,0,0,9) = 2; run(0) = 18; ticks(0) = 1");
    }

    private static void frozenCalls() {
        Script.play("6 frozen", ONE_CALL, "declareCall(0,0,0,3) = 1; declareCall(0,0,0,3) = 2; setFrozen(1,1) = 1; setFrozen(1,1) = -2; setFrozen(2,1) = 2; setFrozen(0,1) = 3; setFrozen(1,0) = 2; setFrozen(1,0) = -2; setFrozen(1,1) = 3",
            "setFrozen(3,1) = -1; setFrozen(-1,0) = -1; setFrozen(0,2) = -1; setFrozen(0,-1) = -1; setFrozen(32,1) = -1; setFrozen(0,2147483647) = -1; setFrozen(3,2) = -1");
    }

    private static void unfreezing() {
        String frozen = "declareType(0,-1,0) = 0; declareMethod(0,0,2) = 0; declareCall(0,0,0,2) = 0; setFrozen(0,1) = 1; ";
        Script.play("6 fewer parameters", frozen + "startChange(0) = 1; keepParameter(0) = 1; applyChange() = 0; setFrozen(0,0) = -2; setFrozen(0,1) = -2; setFrozen(0,2) = -1");
        Script.play("6 more parameters", frozen + "startChange(0) = 1; keepParameter(0) = 1; keepParameter(1) = 2; insertParameter(0) = 2; applyChange() = 0; setFrozen(0,0) = -2");
        // Via another length the list becomes one of the same length with other keys.
        Script.play("6 other keys", frozen + "startChange(0) = 1; keepParameter(0) = 1; applyChange() = 0; startChange(0) = 1; insertParameter(0) = 1; insertParameter(0) = 2; applyChange() = 0; parameterCount(0) = 2; setFrozen(0,0) = -2");
        Script.play("6 another first key", frozen + "startChange(0) = 1; keepParameter(0) = 1; keepParameter(1) = 2; insertParameter(0) = 2; applyChange() = 0; startChange(0) = 1; keepParameter(2) = 1; keepParameter(1) = 2; applyChange() = 0; parameterKey(0,0) = 2; parameterKey(0,1) = 1; setFrozen(0,0) = -2");
        Script.play("6 another last key", frozen + "startChange(0) = 1; keepParameter(0) = 1; keepParameter(1) = 2; insertParameter(0) = 2; applyChange() = 0; startChange(0) = 1; keepParameter(0) = 1; keepParameter(2) = 2; applyChange() = 0; parameterKey(0,0) = 0; parameterKey(0,1) = 2; setFrozen(0,0) = -2");
        Script.play("6 another order", frozen + "startChange(0) = 1; keepParameter(1) = 1; applyChange() = 0; startChange(0) = 1; keepParameter(0) = 1; insertParameter(0) = 0; applyChange() = 0; parameterKey(0,0) = 1; parameterKey(0,1) = 0; setFrozen(0,0) = -2");
        Script.play("6 the keys are back", frozen + "startChange(0) = 1; keepParameter(0) = 1; applyChange() = 0; setFrozen(0,0) = -2; startChange(0) = 1; keepParameter(0) = 1; insertParameter(6) = 1; applyChange() = 0; setFrozen(0,0) = 0; setFrozen(0,0) = -2; run(0) = 0");
    }

    private static void dispatchInClasses() {
        Script.play("12 classes", "declareType(0,-1,0) = 0; declareType(0,0,0) = 1; declareType(0,1,0) = 2; declareType(0,0,0) = 3; declareMethod(0,0,0) = 0; declareCall(0,2,0,0) = 0; declareCall(0,0,0,0) = 1; declareCall(0,3,0,0) = 2; dispatch(0) = 0; run(0) = 0",
            "declareMethod(1,0,0) = 1; dispatch(0) = 1; dispatch(1) = 0; dispatch(2) = 0; run(0) = 1000; declareMethod(2,0,0) = 2; dispatch(0) = 2; run(0) = 2000; declareMethod(2,0,1) = 3; declareMethod(2,1,0) = 4; dispatch(0) = 2");
        Script.play("12 a class before an interface", "declareType(0,-1,0) = 0; declareType(1,-1,0) = 1; declareType(0,0,2) = 2; declareMethod(1,0,0) = 0; declareCall(1,2,0,0) = 0; dispatch(0) = 0; declareMethod(0,0,0) = 1; dispatch(0) = 1; run(0) = 0");
        Script.play("12 the present signature", "declareType(0,-1,0) = 0; declareType(0,0,0) = 1; declareMethod(0,0,1) = 0; declareCall(0,1,0,1) = 0; setFrozen(0,1) = 1; startChange(0) = 1; applyChange() = 0",
            "declareMethod(1,0,1) = 1; dispatch(0) = 0; declareMethod(1,0,0) = 2; dispatch(0) = 2; run(0) = 1000");
    }

    private static void dispatchInInterfaces() {
        // 0 <- 1 <- 3, 0 <- 2: the class 4 gets 1 and 2, of which 1 stands before 2 as 3 declares nothing.
        Script.play("12 interfaces", "declareType(1,-1,0) = 0; declareType(1,-1,1) = 1; declareType(1,-1,1) = 2; declareType(1,-1,2) = 3; declareType(0,-1,12) = 4; declareMethod(0,0,0) = 0; declareCall(0,4,0,0) = 0; dispatch(0) = 0",
            "declareMethod(2,0,0) = 1; dispatch(0) = 1; declareMethod(1,0,0) = 2; dispatch(0) = 2; run(0) = 1000; declareMethod(3,0,0) = 3; dispatch(0) = 1; run(0) = 2000");
        Script.play("12 interfaces of a superclass", "declareType(1,-1,0) = 0; declareType(1,-1,0) = 1; declareType(0,-1,2) = 2; declareType(0,2,1) = 3; declareMethod(1,0,0) = 0; declareCall(1,3,0,0) = 0; dispatch(0) = 0; declareMethod(0,0,0) = 1; dispatch(0) = 1; run(0) = 0");
        Script.play("12 other interfaces do not matter", "declareType(1,-1,0) = 0; declareType(1,-1,0) = 1; declareType(0,-1,2) = 2; declareType(0,-1,3) = 3; declareMethod(0,0,0) = 0; declareMethod(1,0,0) = 1; declareCall(1,2,0,0) = 0; dispatch(0) = 1; run(0) = 1000; declareCall(1,3,0,0) = 1; dispatch(1) = 0");
    }

    private static void runs() {
        Script.play("13 order of evaluation", ONE_CALL, "setArgument(0,0,2,0) = 0; setArgument(0,1,1,0) = 0; setArgument(0,2,2,0) = 0; run(0) = 5; ticks(0) = 2; setArgument(0,0,1,0) = 2; run(0) = 0; ticks(0) = 1; setArgument(0,1,2,0) = 1; run(0) = 3; ticks(0) = 2; run(0) = 3");
        Script.play("13 the type counts 1000", "declareType(0,-1,0) = 0; declareType(0,-1,0) = 1; declareType(0,1,0) = 2; declareMethod(1,0,1) = 0; declareMethod(2,0,1) = 1; declareCall(1,2,0,1) = 0; setArgument(0,0,0,-50) = 0; run(0) = 1950");
        // After the change the temporaries are the tick of key 0 and the read of key 1.
        Script.play("13 temporaries first", ONE_CALL, "setArgument(0,0,2,0) = 0; setArgument(0,1,1,0) = 0; setArgument(0,2,2,0) = 0; startChange(0) = 1; keepParameter(2) = 1; keepParameter(1) = 2; keepParameter(0) = 3; hoistedArguments(0) = 3; applyChange() = 1",
            "run(0) = 5; ticks(0) = 2; temporaryCount(0) = 2; argumentKind(0,0) = 2; argumentKind(0,1) = 3; argumentKind(0,2) = 3");
        Script.play("14 temporaries count too", "declareType(0,-1,0) = 0; declareMethod(0,0,2) = 0; declareCall(0,0,0,2) = 0; setArgument(0,0,2,0) = 0; setArgument(0,1,2,0) = 0; startChange(0) = 1; applyChange() = 1; argumentCount(0) = 0; temporaryCount(0) = 2; ticks(0) = 2; run(0) = 0");
    }

    private static void runsOfFrozenCalls() {
        String frozen = "declareType(0,-1,0) = 0; declareMethod(0,0,2) = 0; declareCall(0,0,0,2) = 0; setArgument(0,0,0,10) = 0; setArgument(0,1,2,0) = 0; setFrozen(0,1) = 1; ";
        Script.play("13 a removed parameter gets nothing", frozen + "run(0) = 10; startChange(0) = 1; keepParameter(1) = 1; applyChange() = 0; run(0) = 0; ticks(0) = 1; argumentCount(0) = 2");
        Script.play("13 values by key, default values", frozen + "startChange(0) = 1; insertParameter(-7) = 2; keepParameter(1) = 2; keepParameter(0) = 3; applyChange() = 0; run(0) = -11; ticks(0) = 1; argumentKind(0,1) = 2");
        // The key 0 comes back with another meaning; by the document's words the argument with it serves it.
        Script.play("13 a key that comes back", frozen + "startChange(0) = 1; keepParameter(1) = 1; applyChange() = 0; startChange(0) = 1; insertParameter(5) = 0; insertParameter(6) = 2; keepParameter(0) = 3; applyChange() = 0; run(0) = 28");
    }

    private static void answersWithoutCall() {
        Script.play("12 to 17 no such call", ONE_CALL, "dispatch(1) = -1; dispatch(-1) = -1; run(1) = 0; run(-1) = 0; ticks(1) = -1; ticks(-1) = -1; argumentCount(1) = -1; argumentCount(-1) = -1",
            "argumentKind(1,0) = -1; argumentKind(-1,0) = -1; argumentKind(0,3) = -1; argumentKind(0,-1) = -1; temporaryCount(1) = -1; temporaryCount(-1) = -1; dispatch(32) = -1; run(2147483647) = 0; ticks(-2147483648) = -1; argumentKind(0,2147483647) = -1");
    }
}
