/** Counts the answers that are not as due, and prints them. */
final class Check {
    private int right = 0;
    private int wrong = 0;

    void due(String call, long got, long want) {
        if (got == want) {
            right++;
            return;
        }
        wrong++;
        if (wrong <= 40) System.out.println(call + " answered " + got + ", due is " + want);
    }

    void holds(String what, boolean does) {
        due(what, does ? 1 : 0, 1);
    }

    boolean anyRight() {
        return right != 0;
    }

    boolean anyWrong() {
        return wrong != 0;
    }

    void end(String name) {
        System.out.println(name + ": " + right + " answers as due, " + wrong + " not");
        if (wrong != 0 || right == 0) System.exit(1);
    }
}
