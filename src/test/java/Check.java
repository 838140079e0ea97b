import java.util.function.IntUnaryOperator;

/** What the tests share: texts written as strings, and a count of wrong answers. */
final class Check {
    /** The sign of a class is the character at its number: WORD w, SPACE, OPEN (, ... NEWLINE n. */
    static final String SIGNS = "w ()\"\\;n";
    static final int[] FAR = {Integer.MIN_VALUE, -65, -1, 65, 66, Integer.MAX_VALUE};

    private int wrong = 0;
    private int asked = 0;

    static SexpMotion text(String signs) {
        SexpMotion x = new SexpMotion();
        for (int i = 0; i < signs.length(); i++) {
            x.insert(i, SIGNS.indexOf(signs.charAt(i)));
        }
        return x;
    }

    void due(String call, int got, int want) {
        asked++;
        if (got != want) {
            wrong++;
            System.out.println(call + " answered " + got + ", due is " + want);
        }
    }

    /** Asks a question at 0, 1, 2, .. and expects these answers in turn. */
    void dueInTurn(String what, IntUnaryOperator question, int... wants) {
        for (int i = 0; i < wants.length; i++) {
            due(what + " at " + i, question.applyAsInt(i), wants[i]);
        }
    }

    /** Asks a question far outside every text, where -1 is due always. */
    void refusesFar(String what, IntUnaryOperator question) {
        for (int place : FAR) {
            due(what + " at " + place, question.applyAsInt(place), -1);
        }
    }

    void holds(String when, SexpMotion x, String signs) {
        due(when + ": length()", x.length(), signs.length());
        for (int i = 0; i < signs.length(); i++) {
            due(when + ": kindAt(" + i + ")", x.kindAt(i), SIGNS.indexOf(signs.charAt(i)));
        }
        due(when + ": kindAt(" + signs.length() + ")", x.kindAt(signs.length()), -1);
    }

    void end() {
        System.out.println(asked + " answers looked at, " + wrong + " not as due");
        if (wrong != 0 || asked == 0) {
            System.exit(1);
        }
    }
}
