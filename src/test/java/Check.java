import java.util.function.IntFunction;

/** What the tests share: they count what is not as due, and load boards from texts. */
final class Check {
    interface Call {
        Object run();
    }

    /** Numbers at both ends of int, and some that shifts and casts would take for small ones. */
    private static final int[] FAR = {Integer.MIN_VALUE, Integer.MIN_VALUE + 1, -256, -32, -2, -1,
        31, 32, 33, 64, 255, 256, 257, 65536, Integer.MAX_VALUE - 1, Integer.MAX_VALUE};

    /** What the answers are asked for; it stands before each that is not as due. */
    static String about = "";
    private static int done = 0;
    private static int wrong = 0;

    private Check() {
    }

    static void due(String what, Object got, Object want) {
        done++;
        if (!want.equals(got)) {
            wrong++;
            System.out.println(about + what + " answered " + got + ", due is " + want);
        }
    }

    static int done() {
        return done;
    }

    /** The answer of a call, or the class of what it throws. */
    static Object outcome(Call call) {
        try {
            return call.run();
        } catch (RuntimeException e) {
            return e.getClass();
        }
    }

    static void throwsIndex(String what, Call call) {
        due(what, outcome(call), IndexOutOfBoundsException.class);
    }

    static void throwsArgument(String what, Call call) {
        due(what, outcome(call), IllegalArgumentException.class);
    }

    static void throwsState(String what, Call call) {
        due(what, outcome(call), IllegalStateException.class);
    }

    static void throwsNoElement(String what, Call call) {
        due(what, outcome(call), java.util.NoSuchElementException.class);
    }

    /** The indices 0 to n - 1 are there; those next to them and far off are not. */
    static void indices(String what, int n, IntFunction<Object> call) {
        for (int k = 0; k < n; k++) {
            int there = k;
            due(what + " " + k + " is there", IndexOutOfBoundsException.class
                    .equals(outcome(() -> call.apply(there))), false);
        }
        throwsIndex(what + " " + n, () -> call.apply(n));
        for (int far : FAR) {
            if (far < 0 || far > n) {
                throwsIndex(what + " " + far, () -> call.apply(far));
            }
        }
    }

    /** The numbers from least to most are taken; those next to them and far off are not. */
    static void numbers(String what, int least, int most, IntFunction<Object> call) {
        for (int k = least; k <= most; k++) {
            int taken = k;
            due(what + " " + k + " is taken", IllegalArgumentException.class
                    .equals(outcome(() -> call.apply(taken))), false);
        }
        throwsArgument(what + " " + (least - 1), () -> call.apply(least - 1));
        throwsArgument(what + " " + (most + 1), () -> call.apply(most + 1));
        for (int far : FAR) {
            if (far < least || far > most) {
                throwsArgument(what + " " + far, () -> call.apply(far));
            }
        }
    }

    /** Appends a text, filled up with spaces to whole blocks of 20 bytes. */
    static int append(ColourDuel x, String text) {
        int length = 0;
        for (int block = 0; block < text.length(); block += 20) {
            int[] words = new int[5];
            for (int k = 0; k < 20; k++) {
                int letter = block + k < text.length() ? text.charAt(block + k) : ' ';
                words[k / 4] = words[k / 4] << 8 | letter;
            }
            length = x.append(words[0], words[1], words[2], words[3], words[4]);
        }
        return length;
    }

    static int load(ColourDuel x, String text) {
        append(x, text);
        return x.load(text.length());
    }

    static ColourDuel board(String text) {
        ColourDuel x = new ColourDuel();
        int vertices = load(x, text);
        if (vertices < 1) {
            due("load of " + text + " at " + x.errorPosition(), vertices, "a number of vertices");
        }
        return x;
    }

    /** So many vertices without lists, as a text of a board tells them. */
    static String vertices(int n) {
        return "vertex;".repeat(n);
    }

    static void good(String text, int vertices, String written) {
        ColourDuel x = new ColourDuel();
        due("load of " + text, load(x, text), vertices);
        due("error of " + text, x.errorPosition(), ColourDuel.NONE);
        due("board of " + text, written(x), written);
    }

    /** The roof stands where the error is due. */
    static void bad(int code, String marked) {
        int position = marked.indexOf('^');
        String text = marked.replace("^", "");
        ColourDuel x = new ColourDuel();
        due("load of " + text, load(x, text), code);
        due("error of " + text, x.errorPosition(), position);
        due("board behind " + text, written(x), "./0/0");
        throwsState("no change by " + text, () -> x.undo());
    }

    static String written(ColourDuel x) {
        StringBuilder text = new StringBuilder();
        int length = x.writeBoard();
        for (int k = 0; k < length; k++) {
            text.append((char) x.writtenByte(k));
        }
        return text.toString();
    }

    static void end(String name) {
        System.out.println(name + ": " + (done - wrong) + " answers as due, " + wrong + " not");
        if (wrong != 0) {
            System.exit(1);
        }
    }
}
