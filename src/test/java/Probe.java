import java.util.ArrayList;
import java.util.List;
import java.util.function.Consumer;
import java.util.function.Supplier;
import java.util.TreeSet;

/** Asks an object for all that it can tell, so that two objects can be compared. */
final class Probe {
    private Probe() {
    }

    /** All that undo has to bring back. */
    static String board(ColourDuel x) {
        List<Object> told = new ArrayList<>();
        for (int what = 0; what <= 12; what++) {
            told.add(x.count(what));
        }
        for (int v = 0; v < x.count(0); v++) {
            vertex(x, v, told);
        }
        for (int p = 0; p < x.count(5); p++) {
            for (int what = 0; what <= 7; what++) {
                told.add(x.part(p, what));
            }
        }
        told.add(List.of(x.value(), x.winningMoves(), x.longest(), x.shortest(), x.meanValue()));
        told.add(Check.outcome(() -> x.bestMove()));
        for (int move = 0; move < x.count(7); move++) {
            for (int what = 0; what <= 3; what++) {
                told.add(x.move(move, what));
            }
        }
        for (int what = 0; what <= 4; what++) {
            told.add(List.of(x.account(0, what), x.account(1, what)));
        }
        return told.toString();
    }

    private static void vertex(ColourDuel x, int v, List<Object> told) {
        for (int what = 0; what <= 5; what++) {
            told.add(x.vertex(v, what));
        }
        for (int c = 0; c < x.count(2); c++) {
            int colour = c;
            told.add(x.reason(v, c));
            told.add(Check.outcome(() -> x.valueIf(v, colour)));
        }
        told.add(x.winningColours(v));
        told.add(Check.outcome(() -> x.falls(v)));
        told.add(Check.outcome(() -> x.valueWithout(v)));
    }

    /** The text that was written last, without writing one. */
    static String written(ColourDuel x) {
        StringBuilder text = new StringBuilder();
        Object letter = Check.outcome(() -> x.writtenByte(text.length()));
        while (letter instanceof Integer) {
            text.append((char) (int) (Integer) letter);
            letter = Check.outcome(() -> x.writtenByte(text.length()));
        }
        return text.toString();
    }

    /** The buffer, told by what comes of reading it. */
    private static String buffer(ColourDuel x) {
        Object length = Check.outcome(() -> Check.append(x, " "));
        int read = x.load(length instanceof Integer ? (Integer) length : 500);
        return length + " " + read + " " + x.errorPosition() + board(x);
    }

    private static String slot(ColourDuel x, int slot) {
        return Check.outcome(() -> x.restore(slot)) + board(x);
    }

    /** The boards before all changes that can be undone. */
    private static String changes(ColourDuel x) {
        StringBuilder told = new StringBuilder();
        Object left = 0;
        while (left instanceof Integer) {
            left = Check.outcome(() -> x.undo());
            told.append(left).append(board(x));
        }
        return told.toString();
    }

    /** All that there is in an object; it is made anew for what would change it. */
    static List<String> everything(Supplier<ColourDuel> made) {
        ColourDuel x = made.get();
        return List.of(board(x), x.errorPosition() + written(x), buffer(made.get()),
                slot(made.get(), 0), slot(made.get(), 1), changes(made.get()));
    }

    static void changesNothing(String what, Supplier<ColourDuel> made, Consumer<ColourDuel> call) {
        Check.due(what + " changes nothing", everything(() -> {
            ColourDuel x = made.get();
            Check.outcome(() -> {
                call.accept(x);
                return 0;
            });
            return x;
        }), everything(made));
    }

    /**
     * The value, the longest and the shortest game, by making all moves on the given vertices,
     * and with them all passes or none, and undoing them again. Not for more than eight moves.
     */
    static List<Integer> played(ColourDuel x, List<Integer> vertices, boolean passes) {
        List<List<Integer>> behind = new ArrayList<>();
        for (int v : vertices) {
            for (int c = 0; c < x.count(2); c++) {
                if (x.reason(v, c) == 0) {
                    x.lay(v, c);
                    behind.add(played(x, vertices, passes));
                    x.undo();
                }
            }
        }
        if (passes && x.count(3) > 0) {
            x.pass();
            behind.add(played(x, vertices, true));
            x.undo();
        }
        return together(behind);
    }

    private static List<Integer> together(List<List<Integer>> behind) {
        TreeSet<Integer> values = new TreeSet<>();
        int longest = 0;
        int shortest = behind.isEmpty() ? 0 : Integer.MAX_VALUE;
        for (List<Integer> one : behind) {
            values.add(one.get(0));
            longest = Math.max(longest, one.get(1) + 1);
            shortest = Math.min(shortest, one.get(2) + 1);
        }
        int value = 0;
        while (values.contains(value)) {
            value++;
        }
        return List.of(value, longest, shortest);
    }

    static List<Integer> allVertices(ColourDuel x) {
        List<Integer> all = new ArrayList<>();
        for (int v = 0; v < x.count(0); v++) {
            all.add(v);
        }
        return all;
    }

    static List<Integer> verticesOfPart(ColourDuel x, int part) {
        List<Integer> found = new ArrayList<>();
        for (int v = 0; v < x.count(0); v++) {
            if (x.vertex(v, 4) == part) {
                found.add(v);
            }
        }
        return found;
    }
}
