/** What the tests share: they count what is not as due, and load boards from texts. */
final class Check {
    interface Call {
        Object run();
    }

    private static int done = 0;
    private static int wrong = 0;

    private Check() {
    }

    static void due(String what, Object got, Object want) {
        done++;
        if (!want.equals(got)) {
            wrong++;
            System.out.println(what + " answered " + got + ", due is " + want);
        }
    }

    /** The answer of a call, or the class of what it throws. */
    static Object outcome(Call call) {
        try {
            return call.run();
        } catch (RuntimeException e) {
            return e.getClass();
        }
    }

    static void throwsIndex(String what, Call call) {
        due(what, outcome(call), IndexOutOfBoundsException.class);
    }

    static void throwsArgument(String what, Call call) {
        due(what, outcome(call), IllegalArgumentException.class);
    }

    static void throwsState(String what, Call call) {
        due(what, outcome(call), IllegalStateException.class);
    }

    static void throwsNoElement(String what, Call call) {
        due(what, outcome(call), java.util.NoSuchElementException.class);
    }

    /** Appends a text, filled up with spaces to whole blocks of 20 bytes. */
    static int append(ColourDuel x, String text) {
        int length = 0;
        for (int block = 0; block < text.length(); block += 20) {
            int[] words = new int[5];
            for (int k = 0; k < 20; k++) {
                int letter = block + k < text.length() ? text.charAt(block + k) : ' ';
                words[k / 4] = words[k / 4] << 8 | letter;
            }
            length = x.append(words[0], words[1], words[2], words[3], words[4]);
        }
        return length;
    }

    static int load(ColourDuel x, String text) {
        append(x, text);
        return x.load(text.length());
    }

    static ColourDuel board(String text) {
        ColourDuel x = new ColourDuel();
        int vertices = load(x, text);
        if (vertices < 1) {
            due("load of " + text + " at " + x.errorPosition(), vertices, "a number of vertices");
        }
        return x;
    }

    static String written(ColourDuel x) {
        StringBuilder text = new StringBuilder();
        int length = x.writeBoard();
        for (int k = 0; k < length; k++) {
            text.append((char) x.writtenByte(k));
        }
        return text.toString();
    }

    static void end(String name) {
        System.out.println(name + ": " + (done - wrong) + " answers as due, " + wrong + " not");
        if (wrong != 0) {
            System.exit(1);
        }
    }
}
