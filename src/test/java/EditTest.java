/** Promises 1 to 6: the text itself and its edits. */
public final class EditTest {
    private static final Check check = new Check();
    private static final String FULL = "(w \"\\;n)".repeat(8);

    public static void main(String[] args) {
        newObject();
        insertPutsIn();
        insertRefuses();
        insertStopsAtSixtyFour();
        deleteTakesOut();
        deleteRefuses();
        setChanges();
        setRefuses();
        lengthCounts();
        kindAtAnswers();
        questionsChangeNothing();
        editsAreReadAnew();
        objectsAreApart();
        check.end();
    }

    private static void newObject() {
        SexpMotion x = new SexpMotion();
        check.holds("new", x, "");
        check.due("new: mode(0)", x.mode(0), 0);
        check.due("new: escaped(0)", x.escaped(0), 0);
        check.due("new: depth(0)", x.depth(0), 0);
        check.due("new: bracketAt(0, 0)", x.bracketAt(0, 0), -2);
        check.due("new: partner(0)", x.partner(0), -1);
        check.due("new: strays()", x.strays(), 0);
        check.due("new: forward(0)", x.forward(0), -2);
        check.due("new: backward(0)", x.backward(0), -2);
        check.due("new: up(0)", x.up(0), -2);
        check.due("new: down(0)", x.down(0), -2);
        check.due("new: units()", x.units(), 0);
        check.due("new: delete(0, 0)", x.delete(0, 0), 0);
        check.due("new: set(0, 0)", x.set(0, 0), -1);
    }

    private static void insertPutsIn() {
        SexpMotion x = new SexpMotion();
        check.due("insert first", x.insert(0, 3), 1);
        check.due("insert at the start", x.insert(0, 2), 2);
        check.due("insert in the middle", x.insert(1, 7), 3);
        check.due("insert at the end", x.insert(3, 0), 4);
        check.due("insert in the middle again", x.insert(2, 5), 5);
        check.holds("inserted", x, "(n\\)w");
    }

    private static void insertRefuses() {
        SexpMotion x = Check.text("(w");
        check.due("insert(3, 0)", x.insert(3, 0), -1);
        check.due("insert(-1, 0)", x.insert(-1, 0), -1);
        check.refusesFar("insert(., 0)", gap -> x.insert(gap, 0));
        check.due("insert(0, -1)", x.insert(0, -1), -2);
        check.due("insert(2, 8)", x.insert(2, 8), -2);
        check.due("insert(2, MAX)", x.insert(2, Integer.MAX_VALUE), -2);
        check.due("insert(2, MIN)", x.insert(2, Integer.MIN_VALUE), -2);
        check.due("insert, both wrong", x.insert(3, 8), -1);
        check.holds("after refused inserts", x, "(w");
    }

    private static void insertStopsAtSixtyFour() {
        SexpMotion x = Check.text(FULL.substring(0, 63));
        check.due("insert the 64th", x.insert(63, 3), 64);
        check.due("insert the 65th at the end", x.insert(64, 0), -3);
        check.due("insert the 65th at the start", x.insert(0, 0), -3);
        check.due("full, gap wrong", x.insert(65, 0), -1);
        check.due("full, kind wrong", x.insert(64, 8), -2);
        check.holds("full", x, FULL);
        check.due("delete one of 64", x.delete(0, 1), 63);
        check.due("insert in its place", x.insert(0, 2), 64);
        check.holds("full again", x, FULL);
    }

    private static void deleteTakesOut() {
        SexpMotion x = Check.text("(w )\"\\;n");
        check.due("delete none in the middle", x.delete(3, 3), 8);
        check.due("delete none at the end", x.delete(8, 8), 8);
        check.holds("none deleted", x, "(w )\"\\;n");
        check.due("delete in the middle", x.delete(2, 4), 6);
        check.holds("middle deleted", x, "(w\"\\;n");
        check.due("delete the first", x.delete(0, 1), 5);
        check.holds("first deleted", x, "w\"\\;n");
        check.due("delete to the end", x.delete(3, 5), 3);
        check.holds("end deleted", x, "w\"\\");
        check.due("delete all", x.delete(0, 3), 0);
        check.holds("all deleted", x, "");
        SexpMotion full = Check.text(FULL);
        check.due("delete all of 64", full.delete(0, 64), 0);
        check.holds("all of 64 deleted", full, "");
    }

    private static void deleteRefuses() {
        SexpMotion x = Check.text("(w)");
        check.due("delete(-1, 2)", x.delete(-1, 2), -1);
        check.due("delete(2, 1)", x.delete(2, 1), -1);
        check.due("delete(0, 4)", x.delete(0, 4), -1);
        check.due("delete(4, 4)", x.delete(4, 4), -1);
        check.due("delete(-1, -1)", x.delete(-1, -1), -1);
        check.due("delete(MIN, MAX)", x.delete(Integer.MIN_VALUE, Integer.MAX_VALUE), -1);
        check.due("delete(MAX, MIN)", x.delete(Integer.MAX_VALUE, Integer.MIN_VALUE), -1);
        check.due("delete(MIN, 0)", x.delete(Integer.MIN_VALUE, 0), -1);
        check.due("delete(0, MAX)", x.delete(0, Integer.MAX_VALUE), -1);
        check.holds("after refused deletes", x, "(w)");
    }

    private static void setChanges() {
        SexpMotion x = Check.text("(w)");
        check.due("set the first", x.set(0, 7), 2);
        check.due("set the middle", x.set(1, 1), 0);
        check.due("set the last", x.set(2, 0), 3);
        check.due("set the last again", x.set(2, 6), 0);
        check.due("set to the same", x.set(2, 6), 6);
        check.holds("set", x, "n ;");
        SexpMotion full = Check.text(FULL);
        check.due("set the last of 64", full.set(63, 4), 3);
        check.due("the last of 64", full.kindAt(63), 4);
    }

    private static void setRefuses() {
        SexpMotion x = Check.text("(w)");
        check.due("set(3, 0)", x.set(3, 0), -1);
        check.refusesFar("set(., 0)", at -> x.set(at, 0));
        check.due("set(0, -1)", x.set(0, -1), -2);
        check.due("set(0, 8)", x.set(0, 8), -2);
        check.due("set(0, MIN)", x.set(0, Integer.MIN_VALUE), -2);
        check.due("set(0, MAX)", x.set(0, Integer.MAX_VALUE), -2);
        check.due("set, both wrong", x.set(3, 8), -1);
        check.holds("after refused sets", x, "(w)");
    }

    private static void lengthCounts() {
        SexpMotion x = new SexpMotion();
        for (int i = 0; i < 64; i++) {
            check.due("length() of " + i, x.length(), i);
            x.insert(i / 2, i % 8);
        }
        check.due("length() of 64", x.length(), 64);
        x.insert(0, 0);
        check.due("length() after a refused insert", x.length(), 64);
        x.delete(10, 20);
        check.due("length() after a delete", x.length(), 54);
        x.set(0, 0);
        check.due("length() after a set", x.length(), 54);
    }

    private static void kindAtAnswers() {
        SexpMotion x = Check.text("w ()\"\\;n");
        check.dueInTurn("kindAt", x::kindAt, 0, 1, 2, 3, 4, 5, 6, 7, -1, -1);
        check.refusesFar("kindAt", x::kindAt);
        x.delete(4, 8);
        check.dueInTurn("kindAt after a delete", x::kindAt, 0, 1, 2, 3, -1, -1, -1, -1);
    }

    private static void questionsChangeNothing() {
        SexpMotion x = Check.text("(w\"\\;n");
        for (int place = -1; place <= 7; place++) {
            x.kindAt(place);
            x.mode(place);
            x.escaped(place);
            x.depth(place);
            x.bracketAt(place, 0);
            x.partner(place);
            x.forward(place);
            x.backward(place);
            x.up(place);
            x.down(place);
        }
        x.length();
        x.strays();
        x.units();
        check.holds("after all questions", x, "(w\"\\;n");
        check.dueInTurn("mode after all questions", x::mode, 0, 0, 0, 1, 1, 1, 1, -1);
        check.due("depth after all questions", x.depth(6), 1);
    }

    /** Marks that an earlier reading left must not outlive the edit. */
    private static void editsAreReadAnew() {
        SexpMotion x = Check.text("(w)) \"w\"");
        check.due("units() before", x.units(), 3);
        check.due("strays() before", x.strays(), 1);
        x.insert(0, 6);
        check.due("units() in a remark", x.units(), 0);
        check.due("strays() in a remark", x.strays(), 0);
        check.due("partner(1) in a remark", x.partner(1), -2);
        check.due("down(0) in a remark", x.down(0), -2);
        check.due("forward(0) in a remark", x.forward(0), -2);
        check.due("backward(9) in a remark", x.backward(9), -2);
        x.set(0, 7);
        check.due("units() after a newline", x.units(), 3);
        check.due("partner(1) after a newline", x.partner(1), 3);
        x.delete(1, 2);
        check.due("strays() without the OPEN", x.strays(), 2);
        check.due("partner(2) without the OPEN", x.partner(2), -2);
        SexpMotion y = Check.text("w\\( ((");
        y.delete(4, 6);
        check.due("down(0) after the OPENs went", y.down(0), -2);
        y.set(1, 1);
        check.dueInTurn("escaped after the ESCAPE went", y::escaped, 0, 0, 0, 0, 0, -1);
        check.due("down(0) after the ESCAPE went", y.down(0), 3);
    }

    private static void objectsAreApart() {
        SexpMotion one = Check.text("((");
        SexpMotion other = Check.text("\"");
        check.due("one.depth(2)", one.depth(2), 2);
        check.due("other.mode(1)", other.mode(1), 1);
        check.holds("one", one, "((");
        check.holds("other", other, "\"");
    }
}
