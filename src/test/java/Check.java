import java.util.Map;
import java.util.TreeMap;
import java.util.function.Consumer;
import java.util.function.IntUnaryOperator;

/** What the tests share: texts written as strings, and a count of wrong answers. */
final class Check {
    /** The sign of a class is the character at its number: WORD w, SPACE, OPEN (, ... NEWLINE n. */
    static final String SIGNS = "w ()\"\\;n";
    static final int[] FAR = {Integer.MIN_VALUE, -65, -1, 65, 66, Integer.MAX_VALUE};

    /** The questions about a gap. */
    static final Map<String, Question> OF_GAP = Map.of(
        "mode", SexpMotion::mode,
        "escaped", SexpMotion::escaped,
        "depth", SexpMotion::depth,
        "bracketAt(., 0)", (x, gap) -> x.bracketAt(gap, 0),
        "forward", SexpMotion::forward,
        "backward", SexpMotion::backward,
        "up", SexpMotion::up,
        "down", SexpMotion::down);

    /** The questions about a position. */
    static final Map<String, Question> OF_POSITION = Map.of(
        "kindAt", SexpMotion::kindAt,
        "partner", SexpMotion::partner);

    interface Question {
        int ask(SexpMotion x, int place);
    }

    private int wrong = 0;
    private int asked = 0;
    private String sentence = "";

    static SexpMotion text(String signs) {
        SexpMotion x = new SexpMotion();
        for (int i = 0; i < signs.length(); i++) {
            x.insert(i, SIGNS.indexOf(signs.charAt(i)));
        }
        return x;
    }

    /** The test of one sentence of the document: a wrong answer is told with the sentence. */
    void sentence(String words, Runnable test) {
        sentence = "\"" + words + "\": ";
        int before = asked;
        test.run();
        due("answers looked at", asked > before ? 1 : 0, 1);
        sentence = "";
    }

    void due(String call, int got, int want) {
        asked++;
        if (got != want) {
            wrong++;
            System.out.println(sentence + call + " answered " + got + ", due is " + want);
        }
    }

    /** Asks a question at 0, 1, 2, .. and expects these answers in turn. */
    void dueInTurn(String what, IntUnaryOperator question, int... wants) {
        for (int i = 0; i < wants.length; i++) {
            due(what + " at " + i, question.applyAsInt(i), wants[i]);
        }
    }

    /** Asks a question far outside every text, where -1 is due always. */
    void refusesFar(String what, IntUnaryOperator question) {
        for (int place : FAR) {
            due(what + " at " + place, question.applyAsInt(place), -1);
        }
    }

    /** These calls on an object with this text leave every answer as it is without them. */
    void unchangedBy(String what, String signs, Consumer<SexpMotion> calls) {
        sameAnswers(what, signs, calls, x -> { });
        // What an edit makes of the text shows what the questions do not.
        sameAnswers(what + ", then insert", signs, calls, x -> x.insert(signs.length(), 3));
        sameAnswers(what + ", then delete", signs, calls, x -> x.delete(0, signs.length() / 2));
        sameAnswers(what + ", then set", signs, calls, x -> x.set(0, 4));
    }

    /** Each question has two objects of its own, so that none gets more calls than the document allows. */
    private void sameAnswers(String what, String signs, Consumer<SexpMotion> calls, Consumer<SexpMotion> edit) {
        Map<String, Question> questions = new TreeMap<>(OF_GAP);
        questions.putAll(OF_POSITION);
        questions.put("bracketAt(., 1)", (x, gap) -> x.bracketAt(gap, 1));
        questions.put("bracketAt(length(), .)", (x, level) -> x.bracketAt(x.length(), level));
        questions.put("length", (x, none) -> x.length());
        questions.put("strays", (x, none) -> x.strays());
        questions.put("units", (x, none) -> x.units());
        for (String name : questions.keySet()) {
            SexpMotion with = text(signs);
            SexpMotion without = text(signs);
            calls.accept(with);
            edit.accept(with);
            edit.accept(without);
            for (int place = -1; place <= signs.length() + 1; place++) {
                int want = questions.get(name).ask(without, place);
                due(what + ": " + name + " at " + place, questions.get(name).ask(with, place), want);
            }
        }
    }

    void holds(String when, SexpMotion x, String signs) {
        due(when + ": length()", x.length(), signs.length());
        for (int i = 0; i < signs.length(); i++) {
            due(when + ": kindAt(" + i + ")", x.kindAt(i), SIGNS.indexOf(signs.charAt(i)));
        }
        due(when + ": kindAt(" + signs.length() + ")", x.kindAt(signs.length()), -1);
    }

    void end() {
        System.out.println(asked + " answers looked at, " + wrong + " not as due");
        if (wrong != 0 || asked == 0) {
            System.exit(1);
        }
    }
}
