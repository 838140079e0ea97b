/** Promises 7 to 12 and 15: what reading the text finds. */
public final class ReadingTest {
    private static final Check check = new Check();
    private static final String DEEP = "(".repeat(64);

    public static void main(String[] args) {
        modes();
        escapes();
        depths();
        bracketsByLevel();
        partners();
        strayCloses();
        innermost();
        check.end();
    }

    private static void mode(String signs, int... wants) {
        check.dueInTurn("mode of " + signs, Check.text(signs)::mode, wants);
    }

    private static void modes() {
        mode("", 0, -1);
        mode("w ()n", 0, 0, 0, 0, 0, 0, -1);
        mode("\"w\"w", 0, 1, 1, 0, 0, -1);
        mode("\" ();n\"", 0, 1, 1, 1, 1, 1, 1, 0, -1);
        mode(";w ()\"\\;nw", 0, 2, 2, 2, 2, 2, 2, 2, 2, 0, 0, -1);
        mode("\\\"w", 0, 0, 0, 0);
        mode("\\;w", 0, 0, 0, 0);
        mode("\\\\;", 0, 0, 0, 2);
        mode("\"\\\"\"", 0, 1, 1, 1, 0);
        mode("\"\\\\\"", 0, 1, 1, 1, 0);
        mode(";\\nw", 0, 2, 2, 0, 0);
        mode("\"\"\"", 0, 1, 0, 1);
        check.refusesFar("mode", Check.text("\"\"")::mode);
        check.due("mode at gap 64", Check.text(" ".repeat(63) + ";").mode(64), 2);
    }

    private static void escaped(String signs, int... wants) {
        check.dueInTurn("escaped of " + signs, Check.text(signs)::escaped, wants);
    }

    private static void escapes() {
        escaped("", 0, -1);
        escaped("\\w", 0, 1, 0, -1);
        escaped("\\", 0, 1, -1);
        escaped("\\\\\\", 0, 1, 0, 1);
        escaped("\\\\\\\\w", 0, 1, 0, 1, 0, 0);
        escaped("\"\\\"", 0, 0, 1, 0);
        escaped(";\\\\n\\", 0, 0, 0, 0, 0, 1);
        escaped("\\n\\;\\(", 0, 1, 0, 1, 0, 1, 0);
        escaped("w ()\";n", 0, 0, 0, 0, 0, 0, 0, 0);
        check.refusesFar("escaped", Check.text("\\")::escaped);
        check.due("escaped at gap 64", Check.text(" ".repeat(63) + "\\").escaped(64), 1);
    }

    private static void depth(String signs, int... wants) {
        check.dueInTurn("depth of " + signs, Check.text(signs)::depth, wants);
    }

    private static void depths() {
        depth("", 0, -1);
        depth("(w(w)w)", 0, 1, 1, 2, 2, 1, 1, 0, -1);
        depth(")()", 0, 0, 1, 0, -1);
        depth("))(", 0, 0, 0, 1);
        depth("\\((\\))", 0, 0, 0, 1, 1, 1, 0);
        depth("(\"()(\")", 0, 1, 1, 1, 1, 1, 1, 0);
        depth("(;)(n)", 0, 1, 1, 1, 1, 1, 0);
        depth("(\"\\\")\")", 0, 1, 1, 1, 1, 1, 1, 0);
        check.refusesFar("depth", Check.text("((")::depth);
        SexpMotion deep = Check.text(DEEP);
        for (int gap = 0; gap <= 64; gap++) {
            check.due("deep: depth(" + gap + ")", deep.depth(gap), gap);
        }
    }

    private static void bracketsByLevel() {
        SexpMotion x = Check.text("(w(w)((");
        check.dueInTurn("bracketAt(7, .)", level -> x.bracketAt(7, level), 0, 5, 6, -2, -2);
        check.dueInTurn("bracketAt(6, .)", level -> x.bracketAt(6, level), 0, 5, -2);
        check.dueInTurn("bracketAt(5, .)", level -> x.bracketAt(5, level), 0, -2);
        check.dueInTurn("bracketAt(4, .)", level -> x.bracketAt(4, level), 0, 2, -2);
        check.dueInTurn("bracketAt(., 0)", gap -> x.bracketAt(gap, 0), -2, 0, 0, 0, 0, 0, 0, 0, -1);
        check.due("bracketAt(7, -1)", x.bracketAt(7, -1), -2);
        check.due("bracketAt(7, MIN)", x.bracketAt(7, Integer.MIN_VALUE), -2);
        check.due("bracketAt(7, MAX)", x.bracketAt(7, Integer.MAX_VALUE), -2);
        check.due("bracketAt, both wrong", x.bracketAt(8, -1), -1);
        check.refusesFar("bracketAt(., 0)", gap -> x.bracketAt(gap, 0));
        check.refusesFar("bracketAt(., 99)", gap -> x.bracketAt(gap, 99));
        SexpMotion deep = Check.text(DEEP);
        for (int level = 0; level < 64; level++) {
            check.due("deep: bracketAt(64, " + level + ")", deep.bracketAt(64, level), level);
        }
        check.due("deep: bracketAt(64, 64)", deep.bracketAt(64, 64), -2);
        check.due("deep: bracketAt(63, 63)", deep.bracketAt(63, 63), -2);
    }

    private static void partner(String signs, int... wants) {
        check.dueInTurn("partner of " + signs, Check.text(signs)::partner, wants);
    }

    private static void partners() {
        partner("", -1);
        partner("()", 1, 0, -1);
        partner("(w(w)w)", 6, -2, 4, -2, 2, -2, 0, -1);
        partner("()()", 1, 0, 3, 2);
        partner("(()", -2, 2, 1);
        partner("())", 1, 0, -2, -1);
        partner(")(", -2, -2);
        partner("\\(()", -2, -2, 3, 2);
        partner("(\\))", 3, -2, -2, 0);
        partner("(\")\")", 4, -2, -2, -2, 0);
        partner("\"\"", -2, -2);
        partner("(;)n)", 4, -2, -2, -2, 0);
        check.refusesFar("partner", Check.text("()")::partner);
        SexpMotion wide = Check.text("(" + "w".repeat(62) + ")");
        check.due("wide: partner(0)", wide.partner(0), 63);
        check.due("wide: partner(63)", wide.partner(63), 0);
    }

    private static void strays(String signs, int want) {
        check.due("strays of " + signs, Check.text(signs).strays(), want);
    }

    private static void strayCloses() {
        strays("", 0);
        strays("()", 0);
        strays(")", 1);
        strays("())", 1);
        strays(")()(()))", 2);
        strays("((", 0);
        strays("\\)", 0);
        strays("\\\\)", 1);
        strays("\")\"", 0);
        strays(";)", 0);
        strays(";)n)", 1);
        strays(")".repeat(64), 64);
    }

    private static void up(String signs, int... wants) {
        check.dueInTurn("up of " + signs, Check.text(signs)::up, wants);
    }

    private static void innermost() {
        up("", -2, -1);
        up("(w(w)w)", -2, 0, 0, 2, 2, 0, 0, -2, -1);
        up(")(", -2, -2, 1, -1);
        up("()()", -2, 0, -2, 2, -2);
        up("((\")\";)n))", -2, 0, 1, 1, 1, 1, 1, 1, 1, 0, -2);
        up("\\((", -2, -2, -2, 2);
        check.refusesFar("up", Check.text("((")::up);
        check.due("deep: up(64)", Check.text(DEEP).up(64), 63);
    }
}
