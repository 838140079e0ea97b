/** All promises: SexpMotion answers as the model does, on every short text and on long runs of edits. */
public final class ModelTest {
    private static final Check check = new Check();
    private static final int LONGEST = 5;
    private static final int RUNS = 2000;
    private static final int CALLS = 512;

    private static SexpMotion x;
    private static Model model;
    private static long seed;

    public static void main(String[] args) {
        for (int length = 0; length <= LONGEST; length++) {
            for (int number = 0; number < 1 << (3 * length); number++) {
                everyQuestion(length, number);
            }
        }
        for (int run = 0; run < RUNS; run++) {
            longRun(run);
        }
        check.end();
    }

    private static void startAnew() {
        x = new SexpMotion();
        model = new Model();
    }

    /** The octal digits of the number are the classes of the text. */
    private static void everyQuestion(int length, int number) {
        startAnew();
        for (int i = 0; i < length; i++) {
            call(0, i, (number >> (3 * i)) & 7);
        }
        for (int place = -1; place <= length + 1; place++) {
            for (int method = 3; method <= 15; method++) {
                call(method, place, 0);
            }
            for (int level = -1; level <= length; level++) {
                call(16, place, level);
            }
        }
    }

    private static void longRun(int run) {
        startAnew();
        seed = run;
        // Brackets outweigh the rest in some runs, so that deep lists come about.
        boolean bracketed = run % 3 == 0;
        int filled = run % 65;
        for (int i = 0; i < filled; i++) {
            call(0, next(i + 1), anyKind(bracketed));
        }
        for (int i = filled; i < CALLS; i++) {
            anyCall(bracketed);
        }
    }

    private static void anyCall(boolean bracketed) {
        int place = next(model.length() + 3) - 1;
        int method = next(17);
        if (method == 0 || method == 2) {
            call(method, place, anyKind(bracketed));
        } else if (method == 1) {
            call(method, place, place + next(5) - 1);
        } else {
            call(method, place, next(12) - 1);
        }
    }

    private static int anyKind(boolean bracketed) {
        if (bracketed && next(2) == 0) {
            return 2 + next(2);
        }
        int kind = next(40);
        return kind < 38 ? kind % 8 : (kind == 38 ? -1 : 8);
    }

    /** The next number below the bound; the same ones in every run of the test. */
    private static int next(int bound) {
        seed = seed * 6364136223846793005L + 1442695040888963407L;
        return (int) ((seed >>> 33) % bound);
    }

    private static void call(int method, int a, int b) {
        String before = model.toString();
        int got = ofProgram(method, a, b);
        int want = ofModel(method, a, b);
        if (got != want) {
            System.out.print(before + " ");
        }
        check.due("method " + method + " (" + a + ", " + b + ")", got, want);
    }

    private static int ofProgram(int method, int a, int b) {
        switch (method) {
            case 0: return x.insert(a, b);
            case 1: return x.delete(a, b);
            case 2: return x.set(a, b);
            case 3: return x.length();
            case 4: return x.kindAt(a);
            case 5: return x.mode(a);
            case 6: return x.escaped(a);
            case 7: return x.depth(a);
            case 8: return x.partner(a);
            case 9: return x.strays();
            case 10: return x.forward(a);
            case 11: return x.backward(a);
            case 12: return x.up(a);
            case 13: return x.down(a);
            case 14: return x.units();
            case 15: return x.bracketAt(a, 0);
            default: return x.bracketAt(a, b);
        }
    }

    private static int ofModel(int method, int a, int b) {
        switch (method) {
            case 0: return model.insert(a, b);
            case 1: return model.delete(a, b);
            case 2: return model.set(a, b);
            case 3: return model.length();
            case 4: return model.kindAt(a);
            case 5: return model.mode(a);
            case 6: return model.escaped(a);
            case 7: return model.depth(a);
            case 8: return model.partner(a);
            case 9: return model.strays();
            case 10: return model.forward(a);
            case 11: return model.backward(a);
            case 12: return model.up(a);
            case 13: return model.down(a);
            case 14: return model.units();
            case 15: return model.bracketAt(a, 0);
            default: return model.bracketAt(a, b);
        }
    }
}
