/** Bracket structure of a short program text that is edited in the middle. */
public final class SexpMotion {
    private static final int CAPACITY = 64;
    private static final int GAPS = CAPACITY + 1;

    private static final int WORD = 0;
    private static final int OPEN = 2;
    private static final int CLOSE = 3;
    private static final int QUOTE = 4;
    private static final int ESCAPE = 5;
    private static final int REMARK = 6;
    private static final int NEWLINE = 7;

    private static final int IN_PLAIN = 0;
    private static final int IN_STRING = 1;
    private static final int IN_REMARK = 2;

    /** Stands for a position where there is none; no position is negative. */
    private static final int NONE = -1;

    private final int[] kinds = new int[CAPACITY];
    private int count = 0;

    // Everything below is what the last reading of the text found. It is found
    // anew after every edit, because one character can change the meaning of
    // all that follow it.

    private final int[] modeAtGap = new int[GAPS];
    private final boolean[] escapedAtGap = new boolean[GAPS];
    private final int[] depthAtGap = new int[GAPS];

    // The innermost open bracket at the gap before an OPEN is the bracket
    // around that OPEN, so a CLOSE finds here what becomes innermost after it.
    private final int[] innermostAtGap = new int[GAPS];

    private final boolean[] joins = new boolean[CAPACITY];
    private final boolean[] stray = new boolean[CAPACITY];
    private final int[] partnerOf = new int[CAPACITY];
    private final int[] unitEndFrom = new int[CAPACITY];
    private final int[] unitBeginFrom = new int[CAPACITY];
    private int strayCount = 0;
    private int unitCount = 0;

    /** Where the string began that is being read; outside a string it tells nothing. */
    private int stringBegin = 0;

    public SexpMotion() {
        readText();
    }

    public int insert(int gap, int kind) {
        if (!isGap(gap)) {
            return -1;
        }
        if (!isKind(kind)) {
            return -2;
        }
        if (count >= CAPACITY) {
            return -3;
        }
        for (int at = count; at > gap; at--) {
            kinds[at] = kinds[at - 1];
        }
        kinds[gap] = kind;
        count++;
        readText();
        return count;
    }

    public int delete(int from, int to) {
        if (from < 0 || from > to || to > count) {
            return -1;
        }
        int removed = to - from;
        for (int at = to; at < count; at++) {
            kinds[at - removed] = kinds[at];
        }
        count -= removed;
        readText();
        return count;
    }

    public int set(int at, int kind) {
        if (!isPosition(at)) {
            return -1;
        }
        if (!isKind(kind)) {
            return -2;
        }
        int before = kinds[at];
        kinds[at] = kind;
        readText();
        return before;
    }

    public int length() {
        return count;
    }

    public int kindAt(int at) {
        return isPosition(at) ? kinds[at] : -1;
    }

    public int mode(int gap) {
        return isGap(gap) ? modeAtGap[gap] : -1;
    }

    public int escaped(int gap) {
        if (!isGap(gap)) {
            return -1;
        }
        return escapedAtGap[gap] ? 1 : 0;
    }

    public int depth(int gap) {
        return isGap(gap) ? depthAtGap[gap] : -1;
    }

    public int bracketAt(int gap, int level) {
        if (!isGap(gap)) {
            return -1;
        }
        if (level < 0 || level >= depthAtGap[gap]) {
            return -2;
        }
        // Of the brackets that joined at this level, only the last can still be open.
        for (int at = gap - 1; at >= 0; at--) {
            if (joins[at] && depthAtGap[at] == level) {
                return at;
            }
        }
        return -2;
    }

    public int partner(int at) {
        if (!isPosition(at)) {
            return -1;
        }
        return partnerOf[at] == NONE ? -2 : partnerOf[at];
    }

    public int strays() {
        return strayCount;
    }

    public int forward(int gap) {
        if (!isGap(gap)) {
            return -1;
        }
        for (int at = gap; at < count; at++) {
            if (isReadClose(at)) {
                return -3;
            }
            if (unitEndFrom[at] != NONE) {
                return unitEndFrom[at] + 1;
            }
        }
        return -2;
    }

    public int backward(int gap) {
        if (!isGap(gap)) {
            return -1;
        }
        for (int at = gap - 1; at >= 0; at--) {
            if (isOpenAcross(at, gap)) {
                return -3;
            }
            if (unitBeginFrom[at] != NONE) {
                return unitBeginFrom[at];
            }
        }
        return -2;
    }

    public int up(int gap) {
        if (!isGap(gap)) {
            return -1;
        }
        return innermostAtGap[gap] == NONE ? -2 : innermostAtGap[gap];
    }

    public int down(int gap) {
        if (!isGap(gap)) {
            return -1;
        }
        // A CLOSE alone does not decide: without an OPEN after it the answer is -2.
        boolean closeBefore = false;
        for (int at = gap; at < count; at++) {
            if (joins[at]) {
                return closeBefore ? -3 : at + 1;
            }
            closeBefore = closeBefore || isReadClose(at);
        }
        return -2;
    }

    public int units() {
        return unitCount;
    }

    private boolean isGap(int gap) {
        return gap >= 0 && gap <= count;
    }

    private boolean isPosition(int at) {
        return at >= 0 && at < count;
    }

    private boolean isKind(int kind) {
        return kind >= WORD && kind <= NEWLINE;
    }

    /** Whether a CLOSE stands here that was read as one: it has a partner or is stray. */
    private boolean isReadClose(int at) {
        return kinds[at] == CLOSE && (partnerOf[at] != NONE || stray[at]);
    }

    /** Whether an OPEN stands here that joined and has no partner before the gap. */
    private boolean isOpenAcross(int at, int gap) {
        return joins[at] && (partnerOf[at] == NONE || partnerOf[at] >= gap);
    }

    private void readText() {
        startReading();
        for (int at = 0; at < count; at++) {
            forgetCharacter(at);
            carryState(at);
            if (escapedAtGap[at]) {
                continue;
            }
            if (modeAtGap[at] == IN_PLAIN) {
                readInPlain(at);
            } else if (modeAtGap[at] == IN_STRING) {
                readInString(at);
            } else {
                readInRemark(at);
            }
        }
        findWords();
    }

    private void startReading() {
        modeAtGap[0] = IN_PLAIN;
        escapedAtGap[0] = false;
        depthAtGap[0] = 0;
        innermostAtGap[0] = NONE;
        strayCount = 0;
        unitCount = 0;
    }

    private void forgetCharacter(int at) {
        joins[at] = false;
        stray[at] = false;
        partnerOf[at] = NONE;
        unitEndFrom[at] = NONE;
        unitBeginFrom[at] = NONE;
    }

    /** Escaping ends with the one character; all else stays unless that character changes it. */
    private void carryState(int at) {
        modeAtGap[at + 1] = modeAtGap[at];
        escapedAtGap[at + 1] = false;
        depthAtGap[at + 1] = depthAtGap[at];
        innermostAtGap[at + 1] = innermostAtGap[at];
    }

    private void readInPlain(int at) {
        switch (kinds[at]) {
            case OPEN:
                openBracket(at);
                break;
            case CLOSE:
                closeBracket(at);
                break;
            case QUOTE:
                modeAtGap[at + 1] = IN_STRING;
                stringBegin = at;
                break;
            case ESCAPE:
                escapedAtGap[at + 1] = true;
                break;
            case REMARK:
                modeAtGap[at + 1] = IN_REMARK;
                break;
            default:
                break;
        }
    }

    private void readInString(int at) {
        if (kinds[at] == QUOTE) {
            modeAtGap[at + 1] = IN_PLAIN;
            addUnit(stringBegin, at);
        } else if (kinds[at] == ESCAPE) {
            escapedAtGap[at + 1] = true;
        }
    }

    private void readInRemark(int at) {
        if (kinds[at] == NEWLINE) {
            modeAtGap[at + 1] = IN_PLAIN;
        }
    }

    private void openBracket(int at) {
        joins[at] = true;
        innermostAtGap[at + 1] = at;
        depthAtGap[at + 1] = depthAtGap[at] + 1;
    }

    private void closeBracket(int at) {
        int open = innermostAtGap[at];
        if (open == NONE) {
            stray[at] = true;
            strayCount++;
            return;
        }
        partnerOf[open] = at;
        partnerOf[at] = open;
        innermostAtGap[at + 1] = innermostAtGap[open];
        depthAtGap[at + 1] = depthAtGap[at] - 1;
        addUnit(open, at);
    }

    private void addUnit(int begin, int end) {
        unitEndFrom[begin] = end;
        unitBeginFrom[end] = begin;
        unitCount++;
    }

    private void findWords() {
        int begin = NONE;
        for (int at = 0; at < count; at++) {
            if (!isWordPart(at)) {
                begin = NONE;
                continue;
            }
            if (begin == NONE) {
                begin = at;
            }
            if (isWordEnd(at)) {
                addUnit(begin, at);
            }
        }
    }

    private boolean isWordPart(int at) {
        boolean belongs = escapedAtGap[at] || kinds[at] == WORD || kinds[at] == ESCAPE;
        return belongs && modeAtGap[at] == IN_PLAIN;
    }

    /** An ESCAPE at the end of the text has nothing to escape, so no word ends there. */
    private boolean isWordEnd(int at) {
        if (escapedAtGap[at + 1]) {
            return false;
        }
        return at + 1 == count || !isWordPart(at + 1);
    }
}
