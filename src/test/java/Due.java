/** Counts and prints the calls whose answer is not the one that is due. */
final class Due {
    private static int wrong = 0;

    private Due() {
    }

    static void is(String call, int due, int answer) {
        if (answer != due) {
            wrong++;
            System.out.println(call + " answered " + answer + ", due is " + due);
        }
    }

    static void holds(String what, boolean held) {
        if (!held) {
            wrong++;
            System.out.println("does not hold: " + what);
        }
    }

    static void end() {
        if (wrong != 0) {
            System.out.println(wrong + " answers are not as due");
            System.exit(1);
        }
    }
}
