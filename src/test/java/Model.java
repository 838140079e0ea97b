import java.util.ArrayList;
import java.util.List;

/** The document's words taken one by one, without regard to speed: what SexpMotion is held against. */
final class Model {
    private final List<Integer> text = new ArrayList<>();

    /** A state is held per gap; null tells that the text has to be read again. */
    private List<State> states = null;
    private int[] ends;

    private static final class State {
        int mode = 0;
        boolean escaped = false;
        List<Integer> brackets = List.of();
    }

    int insert(int gap, int kind) {
        if (!goodGap(gap)) return -1;
        if (kind < 0 || kind > 7) return -2;
        if (text.size() == 64) return -3;
        text.add(gap, kind);
        states = null;
        return text.size();
    }

    int delete(int from, int to) {
        if (!(0 <= from && from <= to && to <= text.size())) return -1;
        text.subList(from, to).clear();
        states = null;
        return text.size();
    }

    int set(int at, int kind) {
        if (!goodPosition(at)) return -1;
        if (kind < 0 || kind > 7) return -2;
        states = null;
        return text.set(at, kind);
    }

    int length() {
        return text.size();
    }

    int kindAt(int at) {
        return goodPosition(at) ? text.get(at) : -1;
    }

    int mode(int gap) {
        return goodGap(gap) ? state(gap).mode : -1;
    }

    int escaped(int gap) {
        if (!goodGap(gap)) return -1;
        return state(gap).escaped ? 1 : 0;
    }

    int depth(int gap) {
        return goodGap(gap) ? state(gap).brackets.size() : -1;
    }

    int bracketAt(int gap, int level) {
        if (!goodGap(gap)) return -1;
        List<Integer> brackets = state(gap).brackets;
        return level < 0 || level >= brackets.size() ? -2 : brackets.get(level);
    }

    int partner(int at) {
        if (!goodPosition(at)) return -1;
        for (int other = 0; other < text.size(); other++) {
            if (arePartners(at, other) || arePartners(other, at)) return other;
        }
        return -2;
    }

    int strays() {
        int found = 0;
        for (int at = 0; at < text.size(); at++) {
            if (isStray(at)) found++;
        }
        return found;
    }

    int forward(int gap) {
        if (!goodGap(gap)) return -1;
        for (int i = gap; i < text.size(); i++) {
            if (isCloseThatCounts(i)) return -3;
            if (endOfUnit(i) >= 0) return endOfUnit(i) + 1;
        }
        return -2;
    }

    int backward(int gap) {
        if (!goodGap(gap)) return -1;
        for (int e = gap - 1; e >= 0; e--) {
            if (joins(e) && !(partner(e) >= 0 && partner(e) < gap)) return -3;
            for (int i = 0; i <= e; i++) {
                if (endOfUnit(i) == e) return i;
            }
        }
        return -2;
    }

    int up(int gap) {
        if (!goodGap(gap)) return -1;
        List<Integer> brackets = state(gap).brackets;
        return brackets.isEmpty() ? -2 : brackets.get(brackets.size() - 1);
    }

    int down(int gap) {
        if (!goodGap(gap)) return -1;
        int open = gap;
        while (open < text.size() && !joins(open)) open++;
        if (open == text.size()) return -2;
        for (int at = gap; at < open; at++) {
            if (isCloseThatCounts(at)) return -3;
        }
        return open + 1;
    }

    int units() {
        int found = 0;
        for (int i = 0; i < text.size(); i++) {
            if (endOfUnit(i) >= 0) found++;
        }
        return found;
    }

    private boolean goodGap(int gap) {
        return gap >= 0 && gap <= text.size();
    }

    private boolean goodPosition(int at) {
        return at >= 0 && at < text.size();
    }

    private State state(int gap) {
        read();
        return states.get(gap);
    }

    private void read() {
        if (states != null) return;
        states = new ArrayList<>();
        states.add(new State());
        for (int at = 0; at < text.size(); at++) {
            states.add(after(states.get(at), at, text.get(at)));
        }
        ends = new int[text.size()];
        for (int i = 0; i < text.size(); i++) {
            ends[i] = -1;
            for (int e = i; e < text.size(); e++) {
                if (isUnit(i, e)) ends[i] = e;
            }
        }
    }

    private static State after(State before, int at, int kind) {
        State next = new State();
        next.mode = before.mode;
        next.brackets = before.brackets;
        if (before.escaped) return next;
        if (before.mode == 0 && kind == 2) {
            next.brackets = new ArrayList<>(before.brackets);
            next.brackets.add(at);
        }
        if (before.mode == 0 && kind == 3 && !before.brackets.isEmpty()) {
            next.brackets = before.brackets.subList(0, before.brackets.size() - 1);
        }
        if (before.mode == 0 && kind == 4) next.mode = 1;
        if (before.mode == 0 && kind == 6) next.mode = 2;
        if (before.mode == 1 && kind == 4) next.mode = 0;
        if (before.mode == 2 && kind == 7) next.mode = 0;
        if (before.mode != 2 && kind == 5) next.escaped = true;
        return next;
    }

    private boolean joins(int at) {
        return state(at + 1).brackets.size() > state(at).brackets.size();
    }

    private boolean leaves(int at) {
        return state(at + 1).brackets.size() < state(at).brackets.size();
    }

    private boolean isStray(int at) {
        State before = state(at);
        return text.get(at) == 3 && before.mode == 0 && !before.escaped && before.brackets.isEmpty();
    }

    private boolean isCloseThatCounts(int at) {
        return text.get(at) == 3 && (partner(at) >= 0 || isStray(at));
    }

    private boolean arePartners(int open, int close) {
        return joins(open) && leaves(close) && up(close) == open;
    }

    private int endOfUnit(int i) {
        read();
        return ends[i];
    }

    private boolean isUnit(int i, int e) {
        return arePartners(i, e) || isStringUnit(i, e) || isWordUnit(i, e);
    }

    private boolean isStringUnit(int i, int e) {
        if (!(state(i).mode == 0 && state(i + 1).mode == 1)) return false;
        for (int at = i + 1; at < e; at++) {
            if (state(at + 1).mode == 0) return false;
        }
        return e > i && state(e).mode == 1 && state(e + 1).mode == 0;
    }

    private boolean isWordUnit(int i, int e) {
        if (state(i).escaped || state(e + 1).escaped) return false;
        if (i > 0 && isWordKind(i - 1)) return false;
        if (e + 1 < text.size() && isWordKind(e + 1)) return false;
        for (int at = i; at <= e; at++) {
            if (!isWordKind(at)) return false;
        }
        return true;
    }

    private boolean isWordKind(int at) {
        int kind = text.get(at);
        return state(at).mode == 0 && (kind == 0 || kind == 5 || state(at).escaped);
    }

    @Override
    public String toString() {
        StringBuilder signs = new StringBuilder();
        for (int kind : text) signs.append(Check.SIGNS.charAt(kind));
        return "[" + signs + "]";
    }
}
