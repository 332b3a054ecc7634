/** Promises 19 to 24: moves and what is told of them. */
public final class MoveTests {
    private static final String ROW = "colours 2 passes 1; vertex; vertex; vertex; edge 0 1; edge 1 2;";

    public static void main(String[] args) {
        laying();
        passing();
        playing();
        playingInSteps();
        settingPasses();
        movesTold();
        accounts();
        longGames();
        Check.end("MoveTests");
    }

    private static void laying() {
        ColourDuel x = Check.board(ROW);
        Check.due("the row falls apart", x.lay(1, 0), 2);
        Check.due("the colour lies there", x.vertex(1, 0), 0);
        Check.due("it is the other's turn", x.count(6), 1);
        Check.throwsState("not free", () -> x.lay(1, 1));
        Check.throwsState("a neighbour", () -> x.lay(0, 0));
        Check.throwsIndex("vertex -1", () -> x.lay(-1, 0));
        Check.throwsIndex("vertex 3", () -> x.lay(3, 0));
        Check.throwsIndex("colour -1", () -> x.lay(0, -1));
        Check.throwsIndex("colour 2", () -> x.lay(0, 2));
        Check.throwsIndex("colour 2 on what is not free", () -> x.lay(1, 2));
        Check.due("errors are no moves", x.count(7), 1);
        Check.due("one part less", x.lay(0, 1), 1);
        Check.due("none is left", x.lay(2, 1), 0);
        ColourDuel banned = Check.board(ROW);
        banned.lay(0, 0);
        Check.throwsState("the ban", () -> banned.lay(2, 0));
        ColourDuel listed = Check.board("colours 2; vertex a;");
        Check.throwsState("not in the list", () -> listed.lay(0, 1));
    }

    private static void passing() {
        ColourDuel x = Check.board("colours 1 passes 2; vertex;");
        Check.due("one is left", x.pass(), 1);
        Check.due("the other's turn", x.count(6), 1);
        Check.due("none is left", x.pass(), 0);
        Check.throwsState("no pass", () -> x.pass());
        Check.due("two moves", x.count(7), 2);
        Check.due("the ban stays none", x.part(0, 2), ColourDuel.NONE);
    }

    private static void playing() {
        ColourDuel x = Check.board(ROW);
        Check.throwsArgument("0 moves", () -> x.playOut(0));
        Check.throwsArgument("21 moves", () -> x.playOut(21));
        Check.throwsArgument("fewer than none", () -> x.playOut(-1));
        Check.due("to the end", x.playOut(20), 4);
        Check.due("over", x.count(8), 1);
        Check.due("nothing more", x.playOut(1), 0);
        Check.due("that was a change too", x.undo(), 2);
        Check.due("four moves stay", x.count(7), 4);
        Check.due("all of them are one change", x.undo(), 1);
        Check.due("no move stays", x.count(7), 0);
    }

    private static void playingInSteps() {
        ColourDuel whole = Check.board("colours 3 passes 4; vertex; vertex ab; vertex; vertex c;"
                + " vertex; edge 0 1; edge 1 2; edge 2 3; edge 3 4; edge 4 0; edge 0 2;");
        Check.due("saved", whole.save(0), 0);
        int played = whole.playOut(20);
        StringBuilder moves = new StringBuilder();
        for (int k = 0; k < played; k++) {
            moves.append(whole.move(k, 1)).append(whole.move(k, 2)).append(' ');
        }
        whole.restore(0);
        StringBuilder steps = new StringBuilder();
        while (whole.count(8) == 0) {
            int best = whole.bestMove();
            steps.append(best == 100 ? "-1-1 " : best / 4 + "" + best % 4 + " ");
            Check.due("one move", whole.playOut(1), 1);
        }
        Check.due("as bestMove tells", moves.toString(), steps.toString());
        whole.restore(0);
        Check.due("no more than are asked for", whole.playOut(2), 2);
        Check.due("two were made", whole.count(7), 2);
    }

    private static void settingPasses() {
        ColourDuel x = Check.board(ROW);
        Check.due("it was one", x.setPasses(9), 1);
        Check.due("it was nine", x.setPasses(0), 9);
        Check.due("now none", x.count(3), 0);
        Check.due("no move", x.count(7), 0);
        Check.throwsArgument("-1", () -> x.setPasses(-1));
        Check.throwsArgument("10", () -> x.setPasses(10));
        Check.due("three changes", x.undo(), 2);
        Check.due("nine again", x.count(3), 9);
        Check.due("the same number", x.setPasses(9), 9);
        Check.due("is a change as well", x.undo(), 2);
    }

    private static void moveIs(ColourDuel x, int move, int... wanted) {
        for (int what = 0; what < 4; what++) {
            Check.due("move(" + move + ", " + what + ")", x.move(move, what), wanted[what]);
        }
    }

    private static void movesTold() {
        ColourDuel x = Check.board("colours 2 passes 2; vertex; vertex; vertex; edge 0 1; edge 1 2;"
                + " lay 1 b; pass;");
        x.lay(2, 0);
        x.pass();
        x.lay(0, 0);
        moveIs(x, 0, 0, 1, 1, 2);
        moveIs(x, 1, 1, -1, -1, 2);
        moveIs(x, 2, 0, 2, 0, 1);
        moveIs(x, 3, 1, -1, -1, 1);
        moveIs(x, 4, 0, 0, 0, 0);
        Check.throwsIndex("move -1", () -> x.move(-1, 0));
        Check.throwsIndex("move 5", () -> x.move(5, 0));
        Check.throwsIndex("move 5 and what 4", () -> x.move(5, 4));
        Check.throwsArgument("what -1", () -> x.move(0, -1));
        Check.throwsArgument("what 4", () -> x.move(4, 4));
        x.undo();
        Check.throwsIndex("undone", () -> x.move(4, 0));
        x.lay(0, 0);
        Check.load(x, "colours 1; vertex;");
        Check.throwsIndex("a new board has no moves", () -> x.move(0, 0));
    }

    private static void accountIs(String name, ColourDuel x, int player, int... wanted) {
        for (int what = 0; what < 5; what++) {
            Check.due(name + ": account(" + player + ", " + what + ")",
                    x.account(player, what), wanted[what]);
        }
    }

    private static void accounts() {
        ColourDuel x = Check.board("colours 3 passes 2; vertex; vertex; vertex; vertex; vertex;"
                + " edge 0 1; edge 1 2; edge 2 3; edge 3 4;");
        accountIs("at first", x, 0, 0, 0, 0, 0, 0);
        x.lay(2, 0);
        accountIs("falls apart", x, 0, 1, 0, 1, 0, 1);
        x.pass();
        accountIs("a pass", x, 1, 0, 1, 0, 0, 0);
        x.lay(1, 1);
        accountIs("the part gets less", x, 0, 2, 0, 1, 0, 2);
        x.lay(0, 2);
        accountIs("the last of a part", x, 1, 1, 1, 0, 1, 1);
        x.lay(4, 1);
        x.lay(3, 2);
        accountIs("the same colour twice", x, 0, 3, 0, 1, 0, 2);
        accountIs("the same here", x, 1, 2, 1, 0, 2, 1);
        Check.throwsIndex("player -1", () -> x.account(-1, 0));
        Check.throwsIndex("player 2", () -> x.account(2, 0));
        Check.throwsIndex("player 2 and what 5", () -> x.account(2, 5));
        Check.throwsArgument("what -1", () -> x.account(0, -1));
        Check.throwsArgument("what 5", () -> x.account(1, 5));
        ColourDuel text = Check.board("colours 1 passes 1; vertex; vertex; lay 1a; pass; lay 0a;");
        accountIs("the moves of the text", text, 0, 2, 0, 0, 2, 1);
        accountIs("and of the other player", text, 1, 0, 1, 0, 0, 0);
    }

    private static void longGames() {
        ColourDuel x = Check.board("colours 1; vertex; lay 0 a;");
        for (int k = 0; k < 250; k++) {
            x.setPasses(9);
            Check.due("nine passes, " + k, x.playOut(20), 9);
        }
        Check.due("all are counted", x.count(7), 2251);
        Check.due("the first is still told", x.move(0, 1), 0);
        Check.due("and the last", x.move(2250, 0), 0);
        Check.due("passes of player 0", x.account(0, 1), 1125);
        Check.throwsIndex("no more", () -> x.move(2251, 0));
    }
}
