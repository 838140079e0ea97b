/** The sentences under "Promise 1" to "Promise 17" that name a boundary, each with a test of its own. */
public final class BoundaryTest {
    private static final Check check = new Check();
    private static final String FULL = "(w \"\\;n)".repeat(8);
    private static final String DEEP = "(".repeat(64);
    private static final int MIN = Integer.MIN_VALUE;
    private static final int MAX = Integer.MAX_VALUE;

    public static void main(String[] args) {
        edits();
        reading();
        moves();
        check.end();
    }

    private static void edits() {
        check.sentence("1: The text is empty at first", BoundaryTest::emptyAtFirst);
        check.sentence("2: -1 if gap is not good", BoundaryTest::insertGap);
        check.sentence("2: -2 if kind is not in 0 .. 7", BoundaryTest::insertKind);
        check.sentence("2: -3 if there are 64 characters", BoundaryTest::insertFull);
        check.sentence("2: otherwise answers the new length", BoundaryTest::insertAnswers);
        check.sentence("3: -1 unless 0 <= from", BoundaryTest::deleteFromBelow);
        check.sentence("3: -1 unless from <= to", BoundaryTest::deleteCrossed);
        check.sentence("3: -1 unless to <= length()", BoundaryTest::deleteToAbove);
        check.sentence("3: -1 unless .. (to - from wraps around)", BoundaryTest::deleteWrapsAround);
        check.sentence("3: Takes the characters from .. to - 1 out", BoundaryTest::deleteEdges);
        check.sentence("3: otherwise answers the new length", BoundaryTest::deleteAnswers);
        check.sentence("4: -1 if at is not good", BoundaryTest::setAt);
        check.sentence("4: -2 if kind is not in 0 .. 7", BoundaryTest::setKind);
        check.sentence("4: otherwise answers the class before", BoundaryTest::setAnswers);
        check.sentence("5: How many characters there are", BoundaryTest::lengths);
        check.sentence("6: The class of the character at a position", BoundaryTest::kinds);
        check.sentence("6: -1 if at is not good", BoundaryTest::kindAtNowhere);
    }

    private static void reading() {
        check.sentence("7: The mode at a gap", BoundaryTest::modeAtEdges);
        check.sentence("7: -1 if gap is not good", () -> refuses("mode", SexpMotion::mode));
        check.sentence("8: 1 if the next character is escaped at the gap", BoundaryTest::escapedAtEdges);
        check.sentence("8: -1 if gap is not good", () -> refuses("escaped", SexpMotion::escaped));
        check.sentence("9: How many open brackets there are", BoundaryTest::depthAtEdges);
        check.sentence("9: -1 if gap is not good", () -> refuses("depth", SexpMotion::depth));
        check.sentence("10: 0 for the outermost", BoundaryTest::outermost);
        check.sentence("10: -1 if gap is not good", BoundaryTest::bracketAtGap);
        check.sentence("10: -2 if level is not in 0 .. depth(gap)-1", BoundaryTest::bracketAtLevel);
        check.sentence("11: The partner of the character", BoundaryTest::partnerAtEdges);
        check.sentence("11: -1 if at is not good", BoundaryTest::partnerNowhere);
        check.sentence("11: -2 if it has none", BoundaryTest::partnerless);
        check.sentence("12: How many stray CLOSE characters", BoundaryTest::strayCounts);
        check.sentence("15: The position of the innermost open bracket", BoundaryTest::upAtEdges);
        check.sentence("15: -1 if gap is not good", () -> refuses("up", SexpMotion::up));
        check.sentence("15: -2 if there is none", BoundaryTest::upNone);
    }

    private static void moves() {
        check.sentence("13: the least position >= gap", BoundaryTest::forwardLeast);
        check.sentence("13: -1 if gap is not good", () -> refuses("forward", SexpMotion::forward));
        check.sentence("13: -2 if there is no such i", BoundaryTest::forwardNone);
        check.sentence("13: -3 if there is such a CLOSE at i", BoundaryTest::forwardClose);
        check.sentence("13: read in PLAIN mode and not escaped", BoundaryTest::forwardOtherClose);
        check.sentence("13: otherwise e + 1", BoundaryTest::forwardAnswers);
        check.sentence("14: the greatest position < gap", BoundaryTest::backwardGreatest);
        check.sentence("14: -1 if gap is not good", () -> refuses("backward", SexpMotion::backward));
        check.sentence("14: -2 if there is no such e", BoundaryTest::backwardNone);
        check.sentence("14: an OPEN that joins but has no partner (none at all)", BoundaryTest::backwardNoPartner);
        check.sentence("14: .. or one at a position >= gap", BoundaryTest::backwardPartnerBeyond);
        check.sentence("14: an OPEN that joins", BoundaryTest::backwardOtherOpen);
        check.sentence("14: otherwise i", BoundaryTest::backwardAnswers);
        check.sentence("16: the first OPEN at or after the gap that joins", BoundaryTest::downFirst);
        check.sentence("16: -1 if gap is not good", () -> refuses("down", SexpMotion::down));
        check.sentence("16: -2 if there is no such OPEN", BoundaryTest::downNone);
        check.sentence("16: -3 if such a CLOSE stands before it", BoundaryTest::downClose);
        check.sentence("16: a CLOSE that has a partner or is stray", BoundaryTest::downOtherClose);
        check.sentence("17: How many units begin in the text", BoundaryTest::unitCounts);
    }

    /** A question about a gap, at the gaps next to the good ones and far from them. */
    private static void refuses(String what, Check.Question question) {
        for (String signs : new String[] {"", "(", "(w\"", FULL}) {
            SexpMotion x = Check.text(signs);
            int last = signs.length();
            check.due(what + " at -1 of " + signs, question.ask(x, -1), -1);
            check.due(what + " at " + (last + 1) + " of " + signs, question.ask(x, last + 1), -1);
            check.refusesFar(what + " of " + signs, gap -> question.ask(x, gap));
        }
    }

    private static void emptyAtFirst() {
        SexpMotion x = new SexpMotion();
        check.due("length()", x.length(), 0);
        check.due("kindAt(0)", x.kindAt(0), -1);
        check.due("mode(0)", x.mode(0), 0);
        check.due("mode(1)", x.mode(1), -1);
        check.due("strays()", x.strays(), 0);
        check.due("units()", x.units(), 0);
        check.due("delete(0, 1)", x.delete(0, 1), -1);
        check.due("set(0, 0)", x.set(0, 0), -1);
        check.due("insert(0, 0)", x.insert(0, 0), 1);
    }

    private static void insertGap() {
        refuses("insert(., 0)", (x, gap) -> x.insert(gap, 0));
    }

    private static void insertKind() {
        for (String signs : new String[] {"", "w", FULL}) {
            SexpMotion x = Check.text(signs);
            check.due("class -1", x.insert(0, -1), -2);
            check.due("class 8", x.insert(0, 8), -2);
            check.due("class MIN", x.insert(0, MIN), -2);
            check.due("class MAX", x.insert(signs.length(), MAX), -2);
        }
        check.due("class 0", new SexpMotion().insert(0, 0), 1);
        check.due("class 7", new SexpMotion().insert(0, 7), 1);
    }

    private static void insertFull() {
        SexpMotion x = Check.text(FULL);
        check.due("at gap 0", x.insert(0, 0), -3);
        check.due("at gap 32", x.insert(32, 7), -3);
        check.due("at gap 64", x.insert(64, 0), -3);
        check.due("delete of none", x.delete(64, 64), 64);
        check.due("still full", x.insert(0, 0), -3);
        check.due("delete of one", x.delete(63, 64), 63);
        check.due("room again", x.insert(63, 0), 64);
        check.due("full again", x.insert(63, 0), -3);
    }

    private static void insertAnswers() {
        SexpMotion atStart = new SexpMotion();
        SexpMotion atEnd = new SexpMotion();
        for (int length = 1; length <= 64; length++) {
            check.due("at the start", atStart.insert(0, length % 8), length);
            check.due("at the end", atEnd.insert(length - 1, length % 8), length);
        }
        check.due("the first at the start", atStart.kindAt(63), 1);
        check.due("the last at the start", atStart.kindAt(0), 0);
        check.due("the first at the end", atEnd.kindAt(0), 1);
        check.due("the last at the end", atEnd.kindAt(63), 0);
    }

    private static void deleteFromBelow() {
        SexpMotion x = Check.text("(w)");
        check.due("delete(-1, 0)", x.delete(-1, 0), -1);
        check.due("delete(-1, -1)", x.delete(-1, -1), -1);
        check.due("delete(-1, 3)", x.delete(-1, 3), -1);
        check.due("delete(MIN, 3)", x.delete(MIN, 3), -1);
        check.due("of no text", new SexpMotion().delete(-1, 0), -1);
        check.due("delete(0, 0)", x.delete(0, 0), 3);
    }

    private static void deleteCrossed() {
        SexpMotion x = Check.text("(w)");
        check.due("delete(1, 0)", x.delete(1, 0), -1);
        check.due("delete(3, 2)", x.delete(3, 2), -1);
        check.due("delete(3, 0)", x.delete(3, 0), -1);
        check.due("delete(0, -1)", x.delete(0, -1), -1);
        check.due("delete(4, 3)", x.delete(4, 3), -1);
        check.due("of no text", new SexpMotion().delete(1, 0), -1);
        check.due("delete(2, 2)", x.delete(2, 2), 3);
    }

    private static void deleteToAbove() {
        SexpMotion x = Check.text("(w)");
        check.due("delete(0, 4)", x.delete(0, 4), -1);
        check.due("delete(3, 4)", x.delete(3, 4), -1);
        check.due("delete(4, 4)", x.delete(4, 4), -1);
        check.due("delete(0, MAX)", x.delete(0, MAX), -1);
        check.due("of no text", new SexpMotion().delete(0, 1), -1);
        check.due("of 64", Check.text(FULL).delete(64, 65), -1);
        check.due("delete(3, 3)", x.delete(3, 3), 3);
    }

    private static void deleteWrapsAround() {
        SexpMotion x = Check.text("(w)");
        check.due("delete(MIN, MAX)", x.delete(MIN, MAX), -1);
        check.due("delete(MAX, MIN)", x.delete(MAX, MIN), -1);
        check.due("delete(MIN, MIN)", x.delete(MIN, MIN), -1);
        check.due("delete(MAX, MAX)", x.delete(MAX, MAX), -1);
        check.due("delete(MIN, 0)", x.delete(MIN, 0), -1);
        check.due("delete(0, MIN)", x.delete(0, MIN), -1);
        check.due("delete(MAX, 3)", x.delete(MAX, 3), -1);
        check.holds("afterwards", x, "(w)");
    }

    private static void deleted(int from, int to, String left) {
        SexpMotion x = Check.text("(w)n");
        x.delete(from, to);
        check.holds("after delete(" + from + ", " + to + ")", x, left);
    }

    private static void deleteEdges() {
        deleted(0, 0, "(w)n");
        deleted(2, 2, "(w)n");
        deleted(4, 4, "(w)n");
        deleted(0, 1, "w)n");
        deleted(3, 4, "(w)");
        deleted(1, 3, "(n");
        deleted(0, 4, "");
        SexpMotion full = Check.text(FULL);
        full.delete(1, 63);
        check.holds("64 but for the first and the last", full, "()");
    }

    private static void deleteAnswers() {
        check.due("none of no text", new SexpMotion().delete(0, 0), 0);
        check.due("the only one", Check.text("w").delete(0, 1), 0);
        check.due("none of 64", Check.text(FULL).delete(0, 0), 64);
        check.due("the last of 64", Check.text(FULL).delete(63, 64), 63);
        check.due("all of 64", Check.text(FULL).delete(0, 64), 0);
    }

    private static void positionsRefused(String what, Check.Question question) {
        for (String signs : new String[] {"", "(", "(w\"", FULL}) {
            SexpMotion x = Check.text(signs);
            int first = signs.length();
            check.due(what + " at -1 of " + signs, question.ask(x, -1), -1);
            check.due(what + " at " + first + " of " + signs, question.ask(x, first), -1);
            check.refusesFar(what + " of " + signs, at -> question.ask(x, at));
        }
    }

    private static void setAt() {
        positionsRefused("set(., 0)", (x, at) -> x.set(at, 0));
    }

    private static void setKind() {
        SexpMotion x = Check.text("w)");
        check.due("class -1", x.set(0, -1), -2);
        check.due("class 8", x.set(1, 8), -2);
        check.due("class MIN", x.set(0, MIN), -2);
        check.due("class MAX", x.set(1, MAX), -2);
        check.due("class 0", x.set(1, 0), 3);
        check.due("class 7", x.set(0, 7), 0);
        check.holds("afterwards", x, "nw");
    }

    private static void setAnswers() {
        SexpMotion x = Check.text(FULL);
        check.due("the first of 64", x.set(0, 7), 2);
        check.due("the last of 64", x.set(63, 0), 3);
        check.due("the first again", x.set(0, 7), 7);
        check.due("the last again", x.set(63, 1), 0);
        check.due("the first is changed", x.kindAt(0), 7);
        check.due("the last is changed", x.kindAt(63), 1);
        check.due("the second is not", x.kindAt(1), 0);
        check.due("the last but one is not", x.kindAt(62), 7);
    }

    private static void lengths() {
        check.due("of no text", new SexpMotion().length(), 0);
        check.due("of one", Check.text("\\").length(), 1);
        SexpMotion x = Check.text(FULL);
        check.due("of 64", x.length(), 64);
        x.insert(64, 0);
        check.due("after a refused insert", x.length(), 64);
        x.delete(0, 65);
        check.due("after a refused delete", x.length(), 64);
        x.set(64, 0);
        check.due("after a refused set", x.length(), 64);
        x.delete(0, 64);
        check.due("after all are out", x.length(), 0);
    }

    private static void kinds() {
        SexpMotion x = Check.text("w" + FULL.substring(1, 63) + "n");
        check.due("the first of 64, the least class", x.kindAt(0), 0);
        check.due("the last of 64, the greatest class", x.kindAt(63), 7);
        check.due("the only one", Check.text(")").kindAt(0), 3);
    }

    private static void kindAtNowhere() {
        positionsRefused("kindAt", SexpMotion::kindAt);
        SexpMotion x = Check.text("nnn");
        x.delete(1, 3);
        check.due("where a character went", x.kindAt(1), -1);
    }

    private static void modeAtEdges() {
        check.due("at the only gap", new SexpMotion().mode(0), 0);
        check.due("after a QUOTE", Check.text("\"").mode(1), 1);
        check.due("after a REMARK", Check.text(";").mode(1), 2);
        check.due("STRING at gap 64", Check.text(" ".repeat(63) + "\"").mode(64), 1);
        check.due("PLAIN at gap 63", Check.text(" ".repeat(63) + "\"").mode(63), 0);
        check.due("STRING from gap 1 to 63", Check.text("\"" + " ".repeat(62) + "\"").mode(63), 1);
        check.due("PLAIN at gap 64", Check.text("\"" + " ".repeat(62) + "\"").mode(64), 0);
        check.due("REMARK at gap 64", Check.text(";" + " ".repeat(63)).mode(64), 2);
    }

    private static void escapedAtEdges() {
        check.due("at the only gap", new SexpMotion().escaped(0), 0);
        check.due("before an ESCAPE", Check.text("\\").escaped(0), 0);
        check.due("after an ESCAPE at the end", Check.text("\\").escaped(1), 1);
        SexpMotion x = Check.text("\\".repeat(64));
        for (int gap = 0; gap <= 64; gap++) {
            check.due("64 ESCAPEs, gap " + gap, x.escaped(gap), gap % 2);
        }
        check.due("at gap 64", Check.text("w" + "\\".repeat(63)).escaped(64), 1);
    }

    private static void depthAtEdges() {
        check.due("at the only gap", new SexpMotion().depth(0), 0);
        check.due("no less than none", Check.text("))").depth(2), 0);
        SexpMotion x = Check.text(DEEP);
        check.due("at gap 0 of 64 OPENs", x.depth(0), 0);
        check.due("at gap 64 of 64 OPENs", x.depth(64), 64);
        SexpMotion y = Check.text("(".repeat(32) + ")".repeat(32));
        check.due("at gap 32 of 32 pairs", y.depth(32), 32);
        check.due("at gap 63 of 32 pairs", y.depth(63), 1);
        check.due("at gap 64 of 32 pairs", y.depth(64), 0);
    }

    private static void outermost() {
        check.due("the only one", Check.text("(").bracketAt(1, 0), 0);
        check.due("level 0 of two", Check.text("((").bracketAt(2, 0), 0);
        check.due("level 1 of two", Check.text("((").bracketAt(2, 1), 1);
        check.due("level 0 after a pair", Check.text("()((").bracketAt(4, 0), 2);
        check.due("level 0 of 64", Check.text(DEEP).bracketAt(64, 0), 0);
        check.due("level 63 of 64", Check.text(DEEP).bracketAt(64, 63), 63);
    }

    private static void bracketAtGap() {
        refuses("bracketAt(., 0)", (x, gap) -> x.bracketAt(gap, 0));
        refuses("bracketAt(., -1)", (x, gap) -> x.bracketAt(gap, -1));
        refuses("bracketAt(., MAX)", (x, gap) -> x.bracketAt(gap, MAX));
    }

    private static void bracketAtLevel() {
        check.due("level 0 of no text", new SexpMotion().bracketAt(0, 0), -2);
        check.due("level -1 of no text", new SexpMotion().bracketAt(0, -1), -2);
        SexpMotion x = Check.text("(()");
        check.due("level -1", x.bracketAt(2, -1), -2);
        check.due("level 1 where the depth is 2", x.bracketAt(2, 1), 1);
        check.due("level 2 where the depth is 2", x.bracketAt(2, 2), -2);
        check.due("level 1 where the depth is 1 again", x.bracketAt(3, 1), -2);
        check.due("level MIN", x.bracketAt(2, MIN), -2);
        check.due("level MAX", x.bracketAt(2, MAX), -2);
        check.due("level 64 of 64", Check.text(DEEP).bracketAt(64, 64), -2);
        check.due("level 63 at gap 63", Check.text(DEEP).bracketAt(63, 63), -2);
    }

    private static void partnerAtEdges() {
        check.due("of the first of two", Check.text("()").partner(0), 1);
        check.due("of the last of two", Check.text("()").partner(1), 0);
        String wide = "(" + " ".repeat(62) + ")";
        check.due("of the first of 64", Check.text(wide).partner(0), 63);
        check.due("of the last of 64", Check.text(wide).partner(63), 0);
    }

    private static void partnerNowhere() {
        positionsRefused("partner", SexpMotion::partner);
    }

    private static void partnerless() {
        check.dueInTurn("no bracket", Check.text("w \"\\\\\";n")::partner, -2, -2, -2, -2, -2, -2, -2, -2, -1);
        check.due("an OPEN that stays open", Check.text("(").partner(0), -2);
        check.due("a stray CLOSE", Check.text(")").partner(0), -2);
        check.dueInTurn("both escaped", Check.text("\\(\\)")::partner, -2, -2, -2, -2);
        check.dueInTurn("both in a string", Check.text("\"()\"")::partner, -2, -2, -2, -2);
        check.dueInTurn("both in a remark", Check.text(";()n")::partner, -2, -2, -2, -2);
        check.due("the last of 64 OPENs", Check.text(DEEP).partner(63), -2);
    }

    private static void strayCounts() {
        check.due("of no text", new SexpMotion().strays(), 0);
        check.due("of one CLOSE", Check.text(")").strays(), 1);
        check.due("of 64 CLOSEs", Check.text(")".repeat(64)).strays(), 64);
        check.due("of 64 OPENs", Check.text(DEEP).strays(), 0);
        check.due("the last of 64", Check.text(" ".repeat(63) + ")").strays(), 1);
        SexpMotion x = Check.text("))");
        x.delete(0, 2);
        check.due("after they went", x.strays(), 0);
    }

    private static void upAtEdges() {
        check.due("at the gap before the OPEN", Check.text("(").up(0), -2);
        check.due("at the gap after the OPEN", Check.text("(").up(1), 0);
        check.due("at the gap before the CLOSE", Check.text("()").up(1), 0);
        check.due("at the gap after the CLOSE", Check.text("()").up(2), -2);
        check.due("at gap 64", Check.text(DEEP).up(64), 63);
        check.due("at gap 64, far back", Check.text("(" + " ".repeat(63)).up(64), 0);
    }

    private static void upNone() {
        check.due("of no text", new SexpMotion().up(0), -2);
        check.due("at gap 0 of 64 OPENs", Check.text(DEEP).up(0), -2);
        check.due("after a stray CLOSE", Check.text(")").up(1), -2);
        check.due("after an escaped OPEN", Check.text("\\(").up(2), -2);
        check.due("after an OPEN in a string", Check.text("\"(").up(2), -2);
        check.due("after an OPEN in a remark", Check.text(";(").up(2), -2);
    }

    private static void forward(String signs, int... wants) {
        check.dueInTurn("forward of " + signs, Check.text(signs)::forward, wants);
    }

    private static void forwardLeast() {
        forward("ww w", 2, 4, 4, 4, -2);
        forward("(w)", 3, 2, -3, -2);
        forward("((w)", 4, 4, 3, -3, -2);
        forward("\"w\"w", 3, 4, 4, 4, -2);
        forward(" ".repeat(63) + "w", 64, 64, 64, 64);
    }

    private static void forwardNone() {
        forward("", -2);
        forward(" ", -2, -2);
        forward("w", 1, -2);
        forward("(", -2, -2);
        forward("\"w", -2, -2, -2);
        forward(";w", -2, -2, -2);
        forward("w\\", -2, -2, -2);
        check.due("at gap 64", Check.text("w".repeat(64)).forward(64), -2);
        check.due("at gap 63 inside a word", Check.text("w".repeat(64)).forward(63), -2);
    }

    private static void forwardClose() {
        forward(")", -3, -2);
        forward(" )w", -3, -3, 3, -2);
        forward("()", 2, -3, -2);
        forward("( )w", 3, -3, -3, 4, -2);
        check.due("the last of 64", Check.text(" ".repeat(63) + ")").forward(0), -3);
        check.due("the last of 64, at gap 63", Check.text(" ".repeat(63) + ")").forward(63), -3);
    }

    private static void forwardOtherClose() {
        forward("\\) w", 2, 4, 4, 4, -2);
        forward("\")\" w", 3, 5, 5, 5, 5, -2);
        forward(";)nw", 4, 4, 4, 4, -2);
        forward("\")", -2, -2, -2);
        forward(";)", -2, -2, -2);
    }

    private static void forwardAnswers() {
        forward("w", 1);
        forward("()", 2);
        forward("\"\"", 2);
        forward("w".repeat(64), 64);
        forward("(" + " ".repeat(62) + ")", 64);
        forward("\"" + " ".repeat(62) + "\"", 64);
    }

    private static void backward(String signs, int... wants) {
        check.dueInTurn("backward of " + signs, Check.text(signs)::backward, wants);
    }

    private static void backwardGreatest() {
        backward("w ww", -2, 0, 0, 0, 2);
        backward("(w)", -2, -3, 1, 0);
        backward("(w))", -2, -3, 1, 0, 0);
        backward("w\"w\"", -2, 0, 0, 0, 1);
        check.due("at gap 64", Check.text("w" + " ".repeat(63)).backward(64), 0);
    }

    private static void backwardNone() {
        backward("", -2);
        backward(" ", -2, -2);
        backward("w", -2, 0);
        backward(")", -2, -2);
        backward("\"w", -2, -2, -2);
        backward(";w", -2, -2, -2);
        backward("w\\", -2, -2, -2);
        check.due("at gap 0 of 64", Check.text("w".repeat(64)).backward(0), -2);
        check.due("at gap 63 inside a word", Check.text("w".repeat(64)).backward(63), -2);
    }

    private static void backwardNoPartner() {
        backward("(", -2, -3);
        backward("( ", -2, -3, -3);
        backward("w(", -2, 0, -3);
        backward("(w", -2, -3, 1);
        backward("(()", -2, -3, -3, 1);
        check.due("at gap 64", Check.text(DEEP).backward(64), -3);
    }

    private static void backwardPartnerBeyond() {
        backward("()", -2, -3, 0);
        backward("( )", -2, -3, -3, 0);
        backward("w( )", -2, 0, -3, -3, 1);
        String wide = "(" + " ".repeat(62) + ")";
        check.due("partner at the gap", Check.text(wide).backward(63), -3);
        check.due("partner before the gap", Check.text(wide).backward(64), 0);
        check.due("partner far beyond the gap", Check.text(wide).backward(1), -3);
    }

    private static void backwardOtherOpen() {
        backward("\\(", -2, -2, 0);
        backward("w\"(", -2, 0, 0, 0);
        backward("w;(", -2, 0, 0, 0);
        backward("\"(", -2, -2, -2);
        backward(";(", -2, -2, -2);
    }

    private static void backwardAnswers() {
        check.due("a word of one", Check.text("w").backward(1), 0);
        check.due("a word of 64", Check.text("w".repeat(64)).backward(64), 0);
        check.due("brackets of 64", Check.text("(" + " ".repeat(62) + ")").backward(64), 0);
        check.due("a string of 64", Check.text("\"" + " ".repeat(62) + "\"").backward(64), 0);
        check.due("the last of 64", Check.text(" ".repeat(63) + "w").backward(64), 63);
    }

    private static void down(String signs, int... wants) {
        check.dueInTurn("down of " + signs, Check.text(signs)::down, wants);
    }

    private static void downFirst() {
        down("(", 1, -2);
        down("((", 1, 2, -2);
        down(" w(", 3, 3, 3, -2);
        down("\\((", 3, 3, 3, -2);
        down("\"(\"(", 4, 4, 4, 4, -2);
        down(";(n(", 4, 4, 4, 4, -2);
        check.due("the last of 64", Check.text(" ".repeat(63) + "(").down(0), 64);
        check.due("the last of 64, at gap 63", Check.text(" ".repeat(63) + "(").down(63), 64);
    }

    private static void downNone() {
        down("", -2);
        down("w", -2, -2);
        down(")", -2, -2);
        down("()", 1, -2, -2);
        down("\\(", -2, -2, -2);
        down("\"(", -2, -2, -2);
        down(";(", -2, -2, -2);
        check.due("at gap 64", Check.text(DEEP).down(64), -2);
    }

    private static void downClose() {
        down(")(", -3, 2, -2);
        down(" )w(", -3, -3, 4, 4, -2);
        down("()(", 1, -3, 3, -2);
        down("(w)(", 1, -3, -3, 4, -2);
        check.due("the last two of 64", Check.text(" ".repeat(62) + ")(").down(0), -3);
        check.due("the last two of 64, at gap 63", Check.text(" ".repeat(62) + ")(").down(63), 64);
    }

    private static void downOtherClose() {
        down("\\)(", 3, 3, 3, -2);
        down("\")\"(", 4, 4, 4, 4, -2);
        down(";)n(", 4, 4, 4, 4, -2);
    }

    private static void units(String signs, int want) {
        check.due("units of " + signs, Check.text(signs).units(), want);
    }

    private static void unitCounts() {
        units("", 0);
        units(" ".repeat(64), 0);
        units(DEEP, 0);
        units(")".repeat(64), 0);
        units("w".repeat(64), 1);
        units("\"".repeat(64), 32);
        units("w ".repeat(32), 32);
        units("()".repeat(32), 32);
        // No text has more: 16 pairs, and a word in all but one of the places beside them.
        units("w(w)".repeat(16), 48);
        SexpMotion x = Check.text("w w");
        x.delete(0, 3);
        check.due("after all are out", x.units(), 0);
    }
}
