import java.util.ArrayList;
import java.util.Arrays;
import java.util.List;

/**
 * Promise 22 for every list of up to five arguments, constants, reads and ticks, and for every choice and order
 * of the parameters that are kept: the conditions of the document are tried on every set of arguments. The change
 * is applied, and the kept arguments must still have their values.
 */
public final class HoistingTest {
    private static final int CONSTANT = 0;
    private static final int TICK = 2;
    private static final int KINDS = 3;

    private final int[] kinds;
    private final List<Integer> kept;

    private HoistingTest(int[] kinds, List<Integer> kept) {
        this.kinds = kinds;
        this.kept = kept;
    }

    public static void main(String[] arguments) {
        for (int count = 0; count <= 5; count++) {
            List<List<Integer>> orders = new ArrayList<>();
            collectOrders(count, new ArrayList<>(), orders);
            for (int number = 0; number < Math.pow(KINDS, count); number++) {
                for (List<Integer> order : orders) {
                    new HoistingTest(kindsOf(number, count), order).check();
                }
            }
        }
        Due.end();
    }

    /** All lists of different numbers below the count. */
    private static void collectOrders(int count, List<Integer> begun, List<List<Integer>> found) {
        found.add(List.copyOf(begun));
        for (int next = 0; next < count; next++) {
            if (!begun.contains(next)) {
                begun.add(next);
                collectOrders(count, begun, found);
                begun.remove(begun.size() - 1);
            }
        }
    }

    private static int[] kindsOf(int number, int count) {
        int[] kinds = new int[count];
        int rest = number;
        for (int index = 0; index < count; index++) {
            kinds[index] = rest % KINDS;
            rest /= KINDS;
        }
        return kinds;
    }

    private void check() {
        SignatureChanger changer = new SignatureChanger();
        declare(changer);
        String title = "kinds " + Arrays.toString(kinds) + " kept " + kept + ": ";
        int ticks = changer.ticks(0);
        changer.startChange(0);
        for (int index : kept) {
            changer.keepParameter(index);
        }
        int due = fewestHoisted();
        Due.is(title + "hoistedArguments(0)", due, changer.hoistedArguments(0));
        Due.is(title + "applyChange()", 1, changer.applyChange());
        Due.is(title + "temporaryCount(0)", Integer.bitCount(due), changer.temporaryCount(0));
        Due.is(title + "ticks(0)", ticks, changer.ticks(0));
        Due.is(title + "run(0)", keptResult(), changer.run(0));
    }

    private void declare(SignatureChanger changer) {
        changer.declareType(0, -1, 0);
        changer.declareMethod(0, 0, kinds.length);
        changer.declareCall(0, 0, 0, kinds.length);
        for (int index = 0; index < kinds.length; index++) {
            changer.setArgument(0, index, kinds[index], constantOf(index));
        }
    }

    private int constantOf(int index) {
        return kinds[index] == CONSTANT ? 7 + index : 0;
    }

    /** The result with the values that the arguments had before the change; the keys are the old indexes. */
    private int keptResult() {
        int result = 0;
        int counter = 0;
        for (int index = 0; index < kinds.length; index++) {
            int value = kinds[index] == CONSTANT ? constantOf(index) : counter;
            result += kept.contains(index) ? (index + 1) * value : 0;
            counter += kinds[index] == TICK ? 1 : 0;
        }
        return result;
    }

    private int fewestHoisted() {
        int best = -1;
        for (int set = 0; set < 1 << kinds.length; set++) {
            boolean fewer = best == -1 || Integer.bitCount(set) < Integer.bitCount(best);
            if (fewer && allowsKinds(set) && keepsOrder(set)) {
                best = set;
            }
        }
        return best;
    }

    private boolean allowsKinds(int hoisted) {
        for (int index = 0; index < kinds.length; index++) {
            boolean isHoisted = (hoisted >> index & 1) == 1;
            boolean removed = !kept.contains(index);
            boolean must = removed && kinds[index] == TICK;
            boolean mustNot = kinds[index] == CONSTANT || (removed && kinds[index] != TICK);
            if ((must && !isHoisted) || (mustNot && isHoisted)) {
                return false;
            }
        }
        return true;
    }

    private boolean keepsOrder(int hoisted) {
        List<Integer> sequence = evaluationOrder(hoisted);
        for (int first = 0; first < sequence.size(); first++) {
            for (int second = first + 1; second < sequence.size(); second++) {
                int one = sequence.get(first);
                int other = sequence.get(second);
                boolean conflict = kinds[one] != CONSTANT && kinds[other] != CONSTANT
                    && (kinds[one] == TICK || kinds[other] == TICK);
                if (conflict && one > other) {
                    return false;
                }
            }
        }
        return true;
    }

    /** First the hoisted arguments in their old order, then the kept ones that are not hoisted, in the new order. */
    private List<Integer> evaluationOrder(int hoisted) {
        List<Integer> sequence = new ArrayList<>();
        for (int index = 0; index < kinds.length; index++) {
            if ((hoisted >> index & 1) == 1) {
                sequence.add(index);
            }
        }
        for (int index : kept) {
            if ((hoisted >> index & 1) == 0) {
                sequence.add(index);
            }
        }
        return sequence;
    }
}
