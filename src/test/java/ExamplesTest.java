/** The four examples of the document, word for word. */
public final class ExamplesTest {
    public static void main(String[] arguments) {
        Script.play("example 1", "declareType(0,-1,0) = 0; declareMethod(0,0,2) = 0; declareCall(0,0,0,2) = 0; setArgument(0,0,2,0) = 0; setArgument(0,1,2,0) = 0; run(0) = 2; startChange(0) = 1; keepParameter(1) = 1; keepParameter(0) = 2; hoistedArguments(0) = 1; applyChange() = 1; parameterKey(0,0) = 1; argumentKind(0,0) = 2; argumentKind(0,1) = 3; temporaryCount(0) = 1; run(0) = 2");
        Script.play("example 2", "declareType(1,-1,0) = 0; declareType(0,-1,0) = 1; declareMethod(0,0,1) = 0; declareMethod(1,0,1) = 1; family(0) = 1; declareType(0,1,1) = 2; family(0) = 3; declareCall(0,2,0,1) = 0; dispatch(0) = 1; setFrozen(0,1) = 1; startChange(1) = 2; insertParameter(5) = 1; keepParameter(0) = 2; bridgeTypes() = 1; applyChange() = 0; run(0) = 1010; parameterKey(0,0) = 1");
        Script.play("example 3", "declareType(0,-1,0) = 0; declareMethod(0,0,1) = 0; declareMethod(0,0,2) = 1; startChange(0) = 1; keepParameter(0) = 1; insertParameter(0) = 1; clashingMethod() = 1; applyChange() = -2");
        Script.play("example 4", "applyChange() = -2; declareType(0,-1,0) = 0; declareCall(0,0,0,0) = -2; declareMethod(0,0,0) = 0; declareMethod(0,0,0) = -2; startChange(0) = 1; keepParameter(0) = -1");
        Due.end();
    }
}
