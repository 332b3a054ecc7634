import java.lang.management.ManagementFactory;

/** All calls of one run must fit into one room: what they make is measured here. */
public final class RoomTests {
    /** Far below 7.3 million fields and elements, even if each took one byte only. */
    private static final long MOST_BYTES = 3_000_000;

    public static void main(String[] args) {
        long values = bytesOf(RoomTests::askValues);
        long moves = bytesOf(RoomTests::makeMoves);
        long loads = bytesOf(RoomTests::loadTexts);
        Check.due("room for values: " + values, values < MOST_BYTES, true);
        Check.due("room for moves: " + moves, moves < MOST_BYTES, true);
        Check.due("room for loads: " + loads, loads < MOST_BYTES, true);
        Check.end("RoomTests");
    }

    private static long bytesOf(Runnable run) {
        run.run();
        com.sun.management.ThreadMXBean threads =
                (com.sun.management.ThreadMXBean) ManagementFactory.getThreadMXBean();
        long before = threads.getCurrentThreadAllocatedBytes();
        run.run();
        return threads.getCurrentThreadAllocatedBytes() - before;
    }

    private static void askValues() {
        ColourDuel x = Check.board("colours 3; vertex; vertex; vertex; vertex; vertex; vertex;"
                + " vertex; edge 0 2;edge 0 3;edge 1 3;edge 2 3;edge 0 4;edge 1 4;edge 2 4;"
                + "edge 1 5;edge 2 5;edge 0 6;edge 4 6;edge 5 6;");
        for (int k = 0; k < 60; k++) {
            x.setPasses(k % 10);
            x.value();
            x.winningMoves();
            x.bestMove();
            x.meanValue();
            x.longest();
            x.valueWithout(k % 7);
        }
    }

    private static void makeMoves() {
        ColourDuel x = Check.board("colours 2; vertex; vertex; vertex; edge 0 1; edge 1 2;");
        for (int k = 0; k < 170; k++) {
            x.setPasses(9);
            x.save(k % 2);
            x.playOut(20);
        }
    }

    private static void loadTexts() {
        ColourDuel x = new ColourDuel();
        for (int k = 0; k < 80; k++) {
            Check.load(x, "colours 1 passes 9; vertex;vertex;vertex;vertex;"
                    + "pass;pass;pass;pass;pass;pass;lay 0a;lay 1a;lay2a;");
        }
    }
}
