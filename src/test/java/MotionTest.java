/** Promises 13, 14, 16 and 17: units, and the moves over them. */
public final class MotionTest {
    private static final Check check = new Check();

    public static void main(String[] args) {
        forwards();
        backwards();
        downs();
        unitCounts();
        check.end();
    }

    private static void forward(String signs, int... wants) {
        check.dueInTurn("forward of " + signs, Check.text(signs)::forward, wants);
    }

    private static void forwards() {
        forward("", -2, -1);
        forward("www", 3, -2, -2, -2, -1);
        forward(" w w ", 2, 2, 4, 4, -2, -2);
        forward("(w) ", 3, 2, -3, -2, -2, -1);
        forward("(w", 2, 2, -2);
        forward("w)w", 1, -3, 3, -2);
        forward(")", -3, -2);
        forward("\"w\"w", 3, 4, 4, 4, -2);
        forward("\"w w", -2, -2, -2, -2, -2);
        forward(";wn w", 5, 5, 5, 5, 5, -2);
        forward(";w)", -2, -2, -2, -2);
        forward("\\)w", 3, -2, -2, -2);
        forward("\")\"", 3, -2, -2, -2);
        forward("\\", -2, -2);
        forward("w\\", -2, -2, -2);
        forward("w\\\\", 3, -2, -2, -2);
        forward("w\\ w (", 4, -2, -2, -2, -2, -2, -2);
        forward("w\"\"w", 1, 3, 4, 4, -2);
        forward("\\\"\"\"", 2, 4, 4, -2, -2);
        check.refusesFar("forward", Check.text("w w")::forward);
        check.due("forward over 64", Check.text("w".repeat(64)).forward(0), 64);
        check.due("forward at gap 64", Check.text("w".repeat(64)).forward(64), -2);
    }

    private static void backward(String signs, int... wants) {
        check.dueInTurn("backward of " + signs, Check.text(signs)::backward, wants);
    }

    private static void backwards() {
        backward("", -2, -1);
        backward("www", -2, -2, -2, 0, -1);
        backward(" w w ", -2, -2, 1, 1, 3, 3, -1);
        backward("(w) ", -2, -3, 1, 0, 0, -1);
        backward("(w", -2, -3, 1);
        backward("w)w", -2, 0, 0, 2);
        backward("()", -2, -3, 0);
        backward("(())", -2, -3, -3, 1, 0);
        backward("(", -2, -3);
        backward(")", -2, -2);
        backward("\"w\"w", -2, -2, -2, 0, 3);
        backward("w\"w w", -2, 0, 0, 0, 0, 0);
        backward("w;w(n", -2, 0, 0, 0, 0, 0);
        backward("\\(", -2, -2, 0);
        backward("w\\", -2, -2, -2);
        backward("w \\", -2, 0, 0, 0);
        backward("w \\\\", -2, 0, 0, 0, 2);
        backward("(\"(\"", -2, -3, -3, -3, 1);
        check.refusesFar("backward", Check.text("w w")::backward);
        check.due("backward over 64", Check.text("(" + "w".repeat(62) + ")").backward(64), 0);
        check.due("backward over 63", Check.text("(" + "w".repeat(62) + ")").backward(63), 1);
    }

    private static void down(String signs, int... wants) {
        check.dueInTurn("down of " + signs, Check.text(signs)::down, wants);
    }

    private static void downs() {
        down("", -2, -1);
        down("w(w", 2, 2, -2, -2, -1);
        down("()()", 1, -3, 3, -2, -2);
        down("(w)", 1, -2, -2, -2);
        down(")", -2, -2);
        down(")(", -3, 2, -2);
        down("\\((", 3, 3, 3, -2);
        down("\"(\"(", 4, 4, 4, 4, -2);
        down(";(n(", 4, 4, 4, 4, -2);
        down("\\)(", 3, 3, 3, -2);
        down("\")\"(", 4, 4, 4, 4, -2);
        down(";)n(", 4, 4, 4, 4, -2);
        down("\"(", -2, -2, -2);
        check.refusesFar("down", Check.text("((")::down);
        check.due("down to gap 64", Check.text("w".repeat(63) + "(").down(0), 64);
        check.due("down at gap 64", Check.text("w".repeat(63) + "(").down(64), -2);
    }

    private static void units(String signs, int want) {
        check.due("units of " + signs, Check.text(signs).units(), want);
    }

    private static void unitCounts() {
        units("", 0);
        units(" n ", 0);
        units("w", 1);
        units("ww", 1);
        units("w w", 2);
        units("wnw", 2);
        units("()", 1);
        units("(w)", 2);
        units("((", 0);
        units("(()", 1);
        units("))", 0);
        units("\"\"", 1);
        units("\"w (w)\"", 1);
        units("\"w", 0);
        units("w\"w\"w", 3);
        units("w(w)w", 4);
        units(";w (w) \"\"", 0);
        units("w;wnw", 2);
        units("\\", 0);
        units("w\\", 0);
        units("w \\", 1);
        units("\\\\", 1);
        units("w\\ \\(\\)\\\"\\;\\nw", 1);
        units("\"\\\"\"", 1);
        units("\"\\\"", 0);
        units("w ".repeat(32), 32);
        units("()".repeat(32), 32);
        units("w\"\"".repeat(21) + "w", 43);
    }
}
