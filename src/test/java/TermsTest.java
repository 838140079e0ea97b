/** The sentences under "What it is" and "Terms" that name a boundary, each with a test of its own. */
public final class TermsTest {
    private static final Check check = new Check();
    private static final String FULL = "(w \"\\;n)".repeat(8);
    private static final String MIXED = ")(w\"(\" (\\)";
    private static final int MIN = Integer.MIN_VALUE;
    private static final int MAX = Integer.MAX_VALUE;

    public static void main(String[] args) {
        check.sentence("An object is used for at most 512 calls", TermsTest::lastOfAllCalls);
        check.sentence("what later calls answer is free", TermsTest::laterCallsEnd);
        check.sentence("The TEXT is a sequence of at most 64 CHARACTERS", TermsTest::atMostSixtyFour);
        check.sentence("each of a CLASS 0 .. 7", TermsTest::classes);
        check.sentence("gap g is before character g", TermsTest::gapIsBefore);
        check.sentence("gap length() is at the end", TermsTest::gapAtTheEnd);
        check.sentence("At gap 0: PLAIN, not escaped, no open brackets", TermsTest::atGapZero);
        check.sentence("if escaped: .. This holds whatever c is", TermsTest::escapedWhateverItIs);
        check.sentence("in PLAIN mode: ..", TermsTest::everyClassInPlain);
        check.sentence("if there is none, nothing changes: the CLOSE is STRAY", TermsTest::closeWithoutBracket);
        check.sentence("in STRING mode: .. all others nothing", TermsTest::everyClassInString);
        check.sentence("in REMARK mode: .. all others (ESCAPE too) nothing", TermsTest::everyClassInRemark);
        check.sentence("An OPEN .. and the CLOSE that makes it leave are PARTNERS", TermsTest::partners);
        check.sentence("BRACKETS: character i is an OPEN that joins and e is its partner", TermsTest::bracketUnits);
        check.sentence("STRING: .. e is the next QUOTE after it that turns it back", TermsTest::stringUnits);
        check.sentence("WORD: the characters i .. e are all read in PLAIN mode", TermsTest::wordsInPlain);
        check.sentence("WORD: .. character i is not escaped", TermsTest::wordsBeginUnescaped);
        check.sentence("WORD: .. character i - 1 (if any) .. not of this kind", TermsTest::wordsBegin);
        check.sentence("WORD: .. character e + 1 (if any) .. not of this kind", TermsTest::wordsEnd);
        check.sentence("WORD: .. and the state after e is not escaped", TermsTest::wordsEndUnescaped);
        check.sentence("A refused call changes nothing", TermsTest::refusedEdits);
        check.sentence("A refused call changes nothing (at 64 characters)", TermsTest::refusedEditsWhenFull);
        check.sentence("A refused call changes nothing (at no characters)", TermsTest::refusedEditsWhenEmpty);
        check.sentence("no question changes anything", TermsTest::questions);
        check.sentence("the tests are made in the order named", TermsTest::orderOfTests);
        check.sentence("a position is good if it is 0 .. length()-1", TermsTest::goodPositions);
        check.sentence("a gap if it is 0 .. length()", TermsTest::goodGaps);
        check.sentence("good .. length() (as it is after an edit)", TermsTest::goodAfterEdits);
        check.end();
    }

    private static void lastOfAllCalls() {
        SexpMotion x = Check.text("(".repeat(64));
        for (int i = 64; i < 510; i++) {
            x.set(i % 64, 2 + i % 2);
        }
        x.set(63, 2);
        check.due("call 512: kindAt(63)", x.kindAt(63), 2);
        SexpMotion y = new SexpMotion();
        for (int i = 0; i < 255; i++) {
            check.due("insert, call " + (2 * i + 1), y.insert(0, i % 8), 1);
            check.due("delete, call " + (2 * i + 2), y.delete(0, 1), 0);
        }
        check.due("insert, call 511", y.insert(0, 2), 1);
        check.due("depth(1), call 512", y.depth(1), 1);
    }

    /** The answer is free, but LANGUAGE.md asks that no call ever throws or fails to end. */
    private static void laterCallsEnd() {
        SexpMotion x = new SexpMotion();
        int calls = 0;
        while (calls < 100000) {
            x.insert(calls % 65, calls % 9);
            x.set(calls % 64, calls % 7);
            x.delete(calls % 61, calls % 67);
            x.backward(64);
            x.bracketAt(64, 0);
            calls += 5;
        }
        check.due("calls that ended", calls, 100000);
    }

    private static void atMostSixtyFour() {
        SexpMotion x = new SexpMotion();
        for (int i = 0; i < 64; i++) {
            check.due("insert the character " + i, x.insert(i, 0), i + 1);
        }
        for (int gap = 0; gap <= 64; gap++) {
            check.due("one more at gap " + gap, x.insert(gap, 0), -3);
        }
        check.due("length()", x.length(), 64);
    }

    private static void classes() {
        for (int kind = 0; kind <= 7; kind++) {
            SexpMotion x = new SexpMotion();
            check.due("insert class " + kind, x.insert(0, kind), 1);
            check.due("kindAt", x.kindAt(0), kind);
            check.due("set to class " + kind, x.set(0, kind), kind);
            check.due("kindAt", x.kindAt(0), kind);
        }
        for (int kind : new int[] {MIN, -1, 8, MAX}) {
            SexpMotion x = Check.text("w");
            check.due("insert class " + kind, x.insert(0, kind), -2);
            check.due("set to class " + kind, x.set(0, kind), -2);
        }
    }

    private static void gapIsBefore() {
        for (int gap = 0; gap <= 3; gap++) {
            SexpMotion x = Check.text("   ");
            x.insert(gap, 7);
            check.holds("insert at gap " + gap, x, " ".repeat(gap) + "n" + " ".repeat(3 - gap));
        }
    }

    private static void gapAtTheEnd() {
        SexpMotion empty = new SexpMotion();
        check.due("mode at the end of no text", empty.mode(0), 0);
        check.due("insert at the end of no text", empty.insert(0, 4), 1);
        check.due("mode at the end of one", empty.mode(1), 1);
        check.due("insert at the end of one", empty.insert(1, 6), 2);
        check.holds("both", empty, "\";");
        SexpMotion full = Check.text(" ".repeat(63) + "(");
        check.due("depth at the end of 64", full.depth(64), 1);
        check.due("depth before the last of 64", full.depth(63), 0);
    }

    private static void atGapZero() {
        String[] texts = {"", "w", " ", "(", ")", "\"", "\\", ";", "n", FULL};
        for (String signs : texts) {
            SexpMotion x = Check.text(signs);
            check.due("mode(0) of " + signs, x.mode(0), 0);
            check.due("escaped(0) of " + signs, x.escaped(0), 0);
            check.due("depth(0) of " + signs, x.depth(0), 0);
            check.due("bracketAt(0, 0) of " + signs, x.bracketAt(0, 0), -2);
            check.due("up(0) of " + signs, x.up(0), -2);
        }
    }

    private static void stateAtEnd(String signs, int mode, int escaped, int... brackets) {
        SexpMotion x = Check.text(signs);
        int end = signs.length();
        check.due("mode after " + signs, x.mode(end), mode);
        check.due("escaped after " + signs, x.escaped(end), escaped);
        check.due("depth after " + signs, x.depth(end), brackets.length);
        check.dueInTurn("bracket after " + signs, level -> x.bracketAt(end, level), brackets);
    }

    private static void escapedWhateverItIs() {
        for (int kind = 0; kind <= 7; kind++) {
            char sign = Check.SIGNS.charAt(kind);
            stateAtEnd("\\" + sign, 0, 0);
            stateAtEnd("((\\" + sign, 0, 0, 0, 1);
            stateAtEnd("(\"\\" + sign, 1, 0, 0);
        }
    }

    private static void everyClassInPlain() {
        stateAtEnd("((w", 0, 0, 0, 1);
        stateAtEnd("(( ", 0, 0, 0, 1);
        stateAtEnd("(((", 0, 0, 0, 1, 2);
        stateAtEnd("(()", 0, 0, 0);
        stateAtEnd("((\"", 1, 0, 0, 1);
        stateAtEnd("((\\", 0, 1, 0, 1);
        stateAtEnd("((;", 2, 0, 0, 1);
        stateAtEnd("((n", 0, 0, 0, 1);
    }

    private static void closeWithoutBracket() {
        stateAtEnd(")", 0, 0);
        stateAtEnd(")(", 0, 0, 1);
        stateAtEnd("())", 0, 0);
        stateAtEnd("())(", 0, 0, 3);
        check.due("strays of )", Check.text(")").strays(), 1);
        check.due("strays of ())", Check.text("())").strays(), 1);
        check.due("strays of ()", Check.text("()").strays(), 0);
        check.due("strays of 64 times )", Check.text(")".repeat(64)).strays(), 64);
    }

    private static void everyClassInString() {
        stateAtEnd("(\"w", 1, 0, 0);
        stateAtEnd("(\" ", 1, 0, 0);
        stateAtEnd("(\"(", 1, 0, 0);
        stateAtEnd("(\")", 1, 0, 0);
        stateAtEnd("(\"\"", 0, 0, 0);
        stateAtEnd("(\"\\", 1, 1, 0);
        stateAtEnd("(\";", 1, 0, 0);
        stateAtEnd("(\"n", 1, 0, 0);
    }

    private static void everyClassInRemark() {
        stateAtEnd("(;w", 2, 0, 0);
        stateAtEnd("(; ", 2, 0, 0);
        stateAtEnd("(;(", 2, 0, 0);
        stateAtEnd("(;)", 2, 0, 0);
        stateAtEnd("(;\"", 2, 0, 0);
        stateAtEnd("(;\\", 2, 0, 0);
        stateAtEnd("(;;", 2, 0, 0);
        stateAtEnd("(;n", 0, 0, 0);
        stateAtEnd("(;\\n", 0, 0, 0);
    }

    private static void partner(String signs, int... wants) {
        check.dueInTurn("partner of " + signs, Check.text(signs)::partner, wants);
    }

    private static void partners() {
        partner("()", 1, 0);
        partner("(())", 3, 2, 1, 0);
        partner("(()", -2, 2, 1);
        partner("())", 1, 0, -2);
        partner(")(", -2, -2);
        partner("(\\))", 3, -2, -2, 0);
        SexpMotion half = Check.text("(".repeat(32) + ")".repeat(32));
        for (int at = 0; at < 64; at++) {
            check.due("partner in 32 pairs, at " + at, half.partner(at), 63 - at);
        }
    }

    /** No unit, if begin is negative; otherwise exactly the one from begin to end. */
    private static void onlyUnit(String signs, int begin, int end) {
        check.due("units of " + signs, Check.text(signs).units(), begin < 0 ? 0 : 1);
        if (begin >= 0) {
            check.due("forward to the unit of " + signs, Check.text(signs).forward(begin), end + 1);
            check.due("backward from the unit of " + signs, Check.text(signs).backward(end + 1), begin);
        }
    }

    private static void noUnit(String signs) {
        onlyUnit(signs, -1, -1);
    }

    private static void bracketUnits() {
        onlyUnit("()", 0, 1);
        onlyUnit("(" + " ".repeat(62) + ")", 0, 63);
        onlyUnit("(()", 1, 2);
        onlyUnit("())", 0, 1);
        noUnit("(");
        noUnit(")");
        noUnit(")(");
        noUnit("(\")");
        noUnit("(;)");
        noUnit(";()");
    }

    private static void stringUnits() {
        onlyUnit("\"\"", 0, 1);
        onlyUnit("\"" + "w".repeat(62) + "\"", 0, 63);
        onlyUnit("\"\\\"\"", 0, 3);
        onlyUnit("\"\\\\\"", 0, 3);
        onlyUnit("\"\"\"", 0, 1);
        noUnit("\"");
        noUnit("\"w");
        noUnit("\"\\\"");
        noUnit(";\"\"");
        check.due("two strings", Check.text("\"\"\"\"").units(), 2);
    }

    private static void wordsInPlain() {
        onlyUnit("w", 0, 0);
        onlyUnit("w".repeat(64), 0, 63);
        onlyUnit("\\ \\n\\(\\)\\\"\\;", 0, 11);
        noUnit("\"w");
        noUnit("\"\\w");
        noUnit(";w");
        noUnit(" ");
        noUnit("n");
        onlyUnit(";wnw", 3, 3);
    }

    private static void wordsBeginUnescaped() {
        onlyUnit("\\w", 0, 1);
        onlyUnit("\\ ", 0, 1);
        onlyUnit(" \\\\", 1, 2);
        check.due("forward from an escaped character", Check.text("\\w").forward(1), -2);
    }

    private static void wordsBegin() {
        onlyUnit("ww", 0, 1);
        onlyUnit(" ww", 1, 2);
        onlyUnit("\\ w", 0, 2);
        check.due("forward from inside a word", Check.text("ww").forward(1), -2);
        check.due("a word after a string", Check.text("\"\"w").units(), 2);
        check.due("a word after brackets", Check.text("()w").units(), 2);
    }

    private static void wordsEnd() {
        onlyUnit("ww ", 0, 1);
        onlyUnit("w\\ ", 0, 2);
        onlyUnit("w\\ w", 0, 3);
        check.due("backward from inside a word", Check.text("ww").backward(1), -2);
        check.due("a word before a string", Check.text("w\"\"").units(), 2);
        check.due("a word before a remark", Check.text("w;w").units(), 1);
    }

    private static void wordsEndUnescaped() {
        noUnit("\\");
        noUnit("w\\");
        noUnit("\\\\\\");
        noUnit("w".repeat(63) + "\\");
        onlyUnit("\\\\", 0, 1);
        onlyUnit("w\\\\", 0, 2);
        onlyUnit("w \\", 0, 0);
    }

    private static void refusedEdits() {
        check.unchangedBy("insert at gap -1", MIXED, x -> x.insert(-1, 2));
        check.unchangedBy("insert at gap length() + 1", MIXED, x -> x.insert(MIXED.length() + 1, 2));
        check.unchangedBy("insert of class -1", MIXED, x -> x.insert(1, -1));
        check.unchangedBy("insert of class 8", MIXED, x -> x.insert(1, 8));
        check.unchangedBy("delete from -1", MIXED, x -> x.delete(-1, 3));
        check.unchangedBy("delete from above to", MIXED, x -> x.delete(3, 2));
        check.unchangedBy("delete to length() + 1", MIXED, x -> x.delete(1, MIXED.length() + 1));
        check.unchangedBy("delete (MIN, MAX)", MIXED, x -> x.delete(MIN, MAX));
        check.unchangedBy("set at -1", MIXED, x -> x.set(-1, 2));
        check.unchangedBy("set at length()", MIXED, x -> x.set(MIXED.length(), 2));
        check.unchangedBy("set to class -1", MIXED, x -> x.set(1, -1));
        check.unchangedBy("set to class 8", MIXED, x -> x.set(1, 8));
    }

    private static void refusedEditsWhenFull() {
        check.unchangedBy("insert at gap 0", FULL, x -> x.insert(0, 2));
        check.unchangedBy("insert at gap 64", FULL, x -> x.insert(64, 2));
        check.unchangedBy("insert at gap 65", FULL, x -> x.insert(65, 2));
        check.unchangedBy("insert of class 8", FULL, x -> x.insert(0, 8));
        check.unchangedBy("delete to 65", FULL, x -> x.delete(0, 65));
        check.unchangedBy("set at 64", FULL, x -> x.set(64, 2));
        check.unchangedBy("set to class 8", FULL, x -> x.set(63, 8));
    }

    private static void refusedEditsWhenEmpty() {
        check.unchangedBy("insert at gap 1", "", x -> x.insert(1, 2));
        check.unchangedBy("insert of class 8", "", x -> x.insert(0, 8));
        check.unchangedBy("delete to 1", "", x -> x.delete(0, 1));
        check.unchangedBy("delete from 1 to 0", "", x -> x.delete(1, 0));
        check.unchangedBy("set at 0", "", x -> x.set(0, 2));
    }

    private static void questions() {
        check.unchangedBy("all questions", MIXED, TermsTest::askAll);
        check.unchangedBy("all questions of no text", "", TermsTest::askAll);
    }

    private static void askAll(SexpMotion x) {
        x.length();
        x.strays();
        x.units();
        for (int place = -1; place <= x.length() + 1; place++) {
            x.kindAt(place);
            x.mode(place);
            x.escaped(place);
            x.depth(place);
            x.bracketAt(place, -1);
            x.bracketAt(place, 0);
            x.bracketAt(place, 9);
            x.partner(place);
            x.forward(place);
            x.backward(place);
            x.up(place);
            x.down(place);
        }
    }

    private static void orderOfTests() {
        SexpMotion full = Check.text(FULL);
        check.due("insert: gap, kind and room", full.insert(65, 8), -1);
        check.due("insert: gap and kind", Check.text("w").insert(2, 8), -1);
        check.due("insert: gap and room", full.insert(-1, 0), -1);
        check.due("insert: kind and room", full.insert(0, 8), -2);
        check.due("insert: kind and room, too small", full.insert(64, -1), -2);
        check.due("set: at and kind", full.set(64, 8), -1);
        check.due("set: at and kind, too small", full.set(-1, -1), -1);
        check.due("set: at and kind of no text", new SexpMotion().set(0, 8), -1);
        check.due("bracketAt: gap and level", full.bracketAt(65, 64), -1);
        check.due("bracketAt: gap and level, too small", full.bracketAt(-1, -1), -1);
        check.due("bracketAt: gap and level of no text", new SexpMotion().bracketAt(1, 0), -1);
    }

    private static void good(String what, Check.Question question, String signs, int last) {
        for (int place = 0; place <= last; place++) {
            int answer = question.ask(Check.text(signs), place);
            check.due(what + " taken at " + place + " of " + signs, answer == -1 ? 0 : 1, 1);
        }
        check.due(what + " at -1 of " + signs, question.ask(Check.text(signs), -1), -1);
        check.due(what + " at " + (last + 1), question.ask(Check.text(signs), last + 1), -1);
        check.refusesFar(what + " of " + signs, place -> question.ask(Check.text(signs), place));
    }

    private static void goodPositions() {
        goodPositionsOf("set(., 0)", (x, at) -> x.set(at, 0));
        Check.OF_POSITION.forEach(TermsTest::goodPositionsOf);
    }

    private static void goodPositionsOf(String what, Check.Question question) {
        good(what, question, "", -1);
        good(what, question, "(", 0);
        good(what, question, MIXED, MIXED.length() - 1);
        good(what, question, FULL, 63);
    }

    private static void goodGaps() {
        goodGapsOf("insert(., 0)", (x, gap) -> x.insert(gap, 0));
        Check.OF_GAP.forEach(TermsTest::goodGapsOf);
    }

    private static void goodGapsOf(String what, Check.Question question) {
        good(what, question, "", 0);
        good(what, question, "(", 1);
        good(what, question, MIXED, MIXED.length());
        good(what, question, FULL, 64);
    }

    private static void goodAfterEdits() {
        lastGoodAfterEdits("set(., 0)", (x, at) -> x.set(at, 0), -1);
        Check.OF_POSITION.forEach((what, question) -> lastGoodAfterEdits(what, question, -1));
        lastGoodAfterEdits("insert(., 0)", (x, gap) -> x.insert(gap, 0), 0);
        Check.OF_GAP.forEach((what, question) -> lastGoodAfterEdits(what, question, 0));
    }

    /** The last good place is the length and so much more. */
    private static void lastGoodAfterEdits(String what, Check.Question question, int more) {
        SexpMotion shorter = Check.text(MIXED);
        shorter.delete(1, MIXED.length());
        check.due(what + " after a delete", question.ask(shorter, 1 + more + 1), -1);
        SexpMotion longer = Check.text(MIXED);
        longer.insert(0, 7);
        int last = MIXED.length() + 1 + more;
        check.due(what + " past the end after an insert", question.ask(longer, last + 1), -1);
        check.due(what + " taken after an insert", question.ask(longer, last) == -1 ? 0 : 1, 1);
    }
}
