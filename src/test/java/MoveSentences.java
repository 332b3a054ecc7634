import java.util.ArrayList;
import java.util.List;

/** Promises 19 to 24. */
final class MoveSentences {
    private static final String NINE = Check.vertices(9);
    private static final String ROW = "colours 2 passes 1; vertex; vertex; vertex; edge 0 1; edge 1 2;";
    private static final String STUCK = "colours 1; vertex; vertex; edge 0 1; lay 1 a;";
    private static final String FULL = "colours 1; vertex; lay 0 a;";

    private MoveSentences() {
    }

    static void all(Sentences s) {
        lay(s);
        pass(s);
        playOut(s);
        playOutBounds(s);
        setPasses(s);
        move(s);
        moveBounds(s);
        account(s);
        accountBounds(s);
    }

    private static void lay(Sentences s) {
        s.section("Promise 19");
        s.namesNoBound("Lays a colour.", "vertex: number of a vertex", "colour: number of a colour");
        s.says("Returns the number of parts then.", () -> {
            ColourDuel star = Check.board("colours 1;" + NINE + "edge 0 1;edge 0 2;edge 0 3;edge 0 4;"
                    + "edge 0 5;edge 0 6;edge 0 7;edge 0 8;");
            Check.due("eight out of one", star.lay(0, 0), 8);
            ColourDuel points = Check.board("colours 1;" + NINE);
            for (int v = 8; v >= 0; v--) {
                Check.due("one less", points.lay(v, 0), v);
            }
            ColourDuel ring = Check.board("colours 2;" + Check.vertices(5) + "edge 0 1;edge 1 2;edge 2 0;edge 3 4;");
            Check.due("as many as before", ring.lay(1, 1), 2);
            Check.due("the pair", ring.lay(3, 0), 2);
            Check.due("one is gone", ring.lay(4, 1), 1);
        });
        s.says("Throws IndexOutOfBoundsException if the vertex or the colour does not exist", () -> {
            for (int colours = 1; colours <= 3; colours++) {
                String text = "colours " + colours + "; vertex; vertex; lay 0 a;";
                Check.indices("vertex", 2, v -> Check.board(text).lay(v, 0));
                Check.indices("colour of a free vertex", colours, c -> Check.board(text).lay(1, c));
                Check.indices("colour of another vertex", colours, c -> Check.board(text).lay(0, c));
            }
        });
        s.says("Throws IllegalStateException if the colour cannot be laid on the vertex", () -> {
            String text = "colours 3; vertex; vertex ab; vertex; vertex; edge 0 1; edge 1 2; edge 2 3; lay 0 a;";
            ColourDuel x = Check.board(text);
            for (int c = 0; c < 3; c++) {
                int colour = c;
                Check.throwsState("not free", () -> x.lay(0, colour));
            }
            Check.throwsState("not in the list", () -> x.lay(1, 2));
            Check.throwsState("a neighbour", () -> x.lay(1, 0));
            Check.throwsState("the ban", () -> x.lay(2, 0));
            Check.throwsState("the ban at the end", () -> x.lay(3, 0));
            Check.due("nothing was laid", Probe.board(x), Probe.board(Check.board(text)));
            Check.throwsState("over", () -> Check.board(STUCK).lay(0, 0));
        });
    }

    private static void pass(Sentences s) {
        s.section("Promise 20");
        s.namesNoBound("Passes.");
        s.says("Returns the number of passes that are left then.", () -> {
            ColourDuel x = Check.board("colours 1 passes 9; vertex;");
            for (int left = 8; left >= 0; left--) {
                Check.due("one less", x.pass(), left);
            }
            Check.due("nine moves", x.count(7), 9);
        });
        s.says("Throws IllegalStateException if none is left", () -> {
            Check.throwsState("none in a new object", () -> new ColourDuel().pass());
            ColourDuel x = Check.board("colours 1 passes 1; vertex; lay 0 a;");
            Check.due("the last one", x.pass(), 0);
            Check.throwsState("none is left", () -> x.pass());
            x.setPasses(1);
            Check.due("one again", x.pass(), 0);
            x.undo();
            x.setPasses(0);
            Check.throwsState("none again", () -> x.pass());
            Check.due("nothing was passed", x.count(7), 2);
        });
    }

    /** The moves, as bestMove tells them. */
    private static List<Integer> moves(ColourDuel x) {
        List<Integer> moves = new ArrayList<>();
        for (int k = 0; k < x.count(7); k++) {
            moves.add(x.move(k, 1) == ColourDuel.NONE ? 100 : 4 * x.move(k, 1) + x.move(k, 2));
        }
        return moves;
    }

    private static void playOut(Sentences s) {
        s.section("Promise 21");
        s.says("Makes moves as told by bestMove, until the game is over.", () -> {
            for (String text : TermSentences.SMALL) {
                ColourDuel x = Check.board(text);
                List<Integer> told = moves(x);
                while (x.count(8) == 0) {
                    int best = x.bestMove();
                    told.add(best);
                    Check.due("one move", best == 100 ? x.pass() >= 0 : x.lay(best / 4, best % 4) >= 0, true);
                }
                ColourDuel y = Check.board(text);
                y.playOut(20);
                Check.due("moves of " + text, moves(y), told);
                Check.due("over", y.count(8), 1);
                Check.due("the same board", Probe.board(y), Probe.board(x));
            }
        });
        s.says("This is one change.", () -> {
            ColourDuel x = Check.board("colours 1 passes 9;" + NINE);
            x.playOut(20);
            Check.due("eighteen moves are undone at once", x.undo(), 1);
            Check.due("none stays", x.count(7), 0);
            x.playOut(1);
            x.playOut(2);
            Check.due("two more changes", x.undo(), 2);
            Check.due("one move stays", x.count(7), 1);
            ColourDuel over = Check.board(FULL);
            over.playOut(20);
            Check.due("of no move too", over.undo(), 1);
        });
        s.says("most: the greatest number of moves, 1 to 20", () -> {
            String longest = "colours 1 passes 9;" + NINE;
            for (int most = 1; most <= 20; most++) {
                ColourDuel x = Check.board(longest);
                Check.due("most " + most, x.playOut(most), Math.min(most, 18));
                Check.due("moves that were made", x.count(7), Math.min(most, 18));
                Check.due("over", x.count(8), most >= 18 ? 1 : 0);
            }
        });
    }

    private static void playOutBounds(Sentences s) {
        s.says("Returns the number of moves that were made.", () -> {
            Check.due("none", Check.board(FULL).playOut(20), 0);
            Check.due("none where a vertex is free", Check.board(STUCK).playOut(1), 0);
            Check.due("one", new ColourDuel().playOut(20), 1);
            ColourDuel x = Check.board(ROW + "lay 1 a;");
            Check.due("not those before", x.playOut(20), 3);
            Check.due("all of them", x.count(7), 4);
            Check.due("no more", x.playOut(20), 0);
            x.setPasses(9);
            Check.due("nine passes", x.playOut(20), 9);
        });
        s.says("Throws IllegalArgumentException if most is out of range", () -> {
            Check.numbers("most", 1, 20, most -> Check.board(ROW).playOut(most));
            Check.numbers("most of a game that is over", 1, 20, most -> Check.board(FULL).playOut(most));
        });
    }

    private static void setPasses(Sentences s) {
        s.section("Promise 22");
        s.says("Changes the number of passes that are left.", () -> {
            ColourDuel x = Check.board(ROW);
            for (int passes = 9; passes >= 0; passes--) {
                x.setPasses(passes);
                Check.due("passes", x.count(3), passes);
                Check.due("the longest game", x.longest(), 3 + passes);
            }
        });
        s.says("This is no move.", () -> {
            ColourDuel x = Check.board(ROW + "lay 0 b;");
            x.setPasses(7);
            Check.due("one move", x.count(7), 1);
            Check.due("the turn", x.count(6), 1);
            Check.due("the ban", x.part(0, 2), 1);
            Check.due("no passes in the account", x.account(0, 1) + x.account(1, 1), 0);
            Check.throwsIndex("no move 1", () -> x.move(1, 0));
        });
        s.says("passes: 0 to 9", () -> {
            for (int passes = 0; passes <= 9; passes++) {
                ColourDuel x = Check.board(FULL);
                x.setPasses(passes);
                Check.due("that many can be made", x.playOut(20), passes);
            }
        });
        s.says("Returns the previous number.", () -> {
            ColourDuel x = Check.board(ROW);
            Check.due("that of the text", x.setPasses(9), 1);
            Check.due("nine", x.setPasses(9), 9);
            x.pass();
            Check.due("one less", x.setPasses(0), 8);
            Check.due("none", x.setPasses(5), 0);
        });
        s.says("Throws IllegalArgumentException if passes is out of range", () -> {
            Check.numbers("passes", 0, 9, passes -> Check.board(ROW).setPasses(passes));
            ColourDuel x = Check.board(ROW);
            Check.throwsArgument("-1", () -> x.setPasses(-1));
            Check.throwsArgument("10", () -> x.setPasses(10));
            Check.due("it stays", x.count(3), 1);
        });
    }

    /** Two passes, and a lay each that parts, makes less and ends the row. */
    private static ColourDuel fiveMoves() {
        ColourDuel x = Check.board("colours 2 passes 2; vertex; vertex; vertex; vertex; edge 0 1; edge 1 2;"
                + " lay 1 b; pass;");
        x.lay(2, 0);
        x.pass();
        x.lay(0, 0);
        return x;
    }

    private static void movesTell(int what, int... wanted) {
        ColourDuel x = fiveMoves();
        for (int k = 0; k < wanted.length; k++) {
            Check.due("move(" + k + ", " + what + ")", x.move(k, what), wanted[k]);
        }
    }

    private static void move(Sentences s) {
        s.section("Promise 23");
        s.namesNoBound("Returns a number of a move that was made.", "Returns the requested number.");
        s.says("move: number of a move, from 0 in the order in which they were made (those of the text first)", () -> {
            Check.due("the text first", moves(fiveMoves()), List.of(5, 100, 8, 100, 0));
            ColourDuel x = Check.board("colours 1 passes 9;" + NINE);
            x.playOut(20);
            List<Integer> all = moves(x);
            Check.due("all moves", all.size(), 18);
            Check.due("the first", all.get(0), 0);
            Check.due("the last lay", all.indexOf(32) > all.indexOf(28), true);
            x.setPasses(1);
            x.pass();
            Check.due("one more behind", moves(x).get(18), 100);
        });
        s.says("what: 0: the player", () -> movesTell(0, 0, 1, 0, 1, 0));
        s.says("1: the vertex (NONE for a pass)", () -> movesTell(1, 1, -1, 2, -1, 0));
        s.says("2: the colour (NONE for a pass)", () -> movesTell(2, 1, -1, 0, -1, 0));
        s.says("3: the parts behind it", () -> {
            movesTell(3, 3, 3, 2, 2, 1);
            Check.due("none", Check.board(FULL).move(0, 3), 0);
            Check.due("nine", Check.board("colours 1 passes 1;" + NINE + "pass;").move(0, 3), 9);
            Check.due("of a pass without parts", Check.board(
                    "colours 1 passes 1; vertex; lay 0 a; pass;").move(1, 3), 0);
        });
    }

    private static void moveBounds(Sentences s) {
        s.says("Throws IndexOutOfBoundsException if the move does not exist", () -> {
            Check.throwsIndex("none was made", () -> new ColourDuel().move(0, 0));
            for (int what = -1; what <= 4; what++) {
                int asked = what;
                Check.indices("what " + what + " of move", 5, move -> fiveMoves().move(move, asked));
            }
            ColourDuel x = fiveMoves();
            x.undo();
            Check.throwsIndex("undone", () -> x.move(4, 0));
            x.setPasses(3);
            Check.throwsIndex("no move", () -> x.move(4, 0));
            Check.load(x, "colours 1; vertex;");
            Check.throwsIndex("another board", () -> x.move(0, 0));
        });
        s.says("Throws IllegalArgumentException for any other what", () -> {
            Check.numbers("what of a lay", 0, 3, what -> fiveMoves().move(0, what));
            Check.numbers("what of a pass", 0, 3, what -> fiveMoves().move(1, what));
            Check.numbers("what of the last move", 0, 3, what -> fiveMoves().move(4, what));
        });
    }

    /** Player 0 parts the row of five and lays three, player 1 passes and lays two. */
    private static final String ACCOUNTS = "colours 3 passes 2;" + Check.vertices(6) + "edge 0 1;edge 1 2;"
            + "edge 2 3;edge 3 4;lay 2 a;pass;lay 1 b;lay 0 c;lay 4 b;lay 3 c;";

    private static void accountIs(int what, String text, int first, int second) {
        ColourDuel x = Check.board(text);
        Check.due("account(0, " + what + ") of " + text, x.account(0, what), first);
        Check.due("account(1, " + what + ") of " + text, x.account(1, what), second);
    }

    private static void account(Sentences s) {
        s.section("Promise 24");
        s.namesNoBound("Returns an account of a player.", "Returns the requested number.");
        s.says("player: 0 or 1", () -> {
            accountIs(0, FULL, 1, 0);
            accountIs(0, "colours 1 passes 1; vertex; pass; lay 0 a;", 0, 1);
        });
        s.says("what: 0: lays", () -> {
            accountIs(0, ROW, 0, 0);
            accountIs(0, ACCOUNTS, 3, 2);
            accountIs(0, "colours 1;" + NINE + "lay0a;lay1a;lay2a;lay3a;lay4a;lay5a;lay6a;lay7a;lay8a;", 5, 4);
        });
        s.says("1: passes", () -> {
            accountIs(1, ACCOUNTS, 0, 1);
            accountIs(1, "colours 1 passes 9; vertex;" + "pass;".repeat(9), 5, 4);
            ColourDuel x = Check.board(ROW);
            x.setPasses(9);
            Check.due("not those that are left", x.account(0, 1), 0);
        });
        s.says("2: lays by which a part fell apart into two or more", () -> {
            accountIs(2, ACCOUNTS, 1, 0);
            accountIs(2, ROW + "lay 1 a;", 1, 0);
            accountIs(2, ROW + "lay 0 a;", 0, 0);
            accountIs(2, "colours 1;" + NINE + "lay 4 a;", 0, 0);
            accountIs(2, "colours 1 passes 1;" + Check.vertices(4) + "edge 0 1;edge 0 2;edge 0 3;pass;lay 0 a;", 0, 1);
            accountIs(2, "colours 1;" + Check.vertices(4) + "edge 0 1;edge 1 2;edge 2 0;lay 1 a;", 0, 0);
        });
    }

    private static void accountBounds(Sentences s) {
        s.says("3: lays on the last free vertex of a part", () -> {
            accountIs(3, ACCOUNTS, 0, 2);
            accountIs(3, "colours 1;" + NINE + "lay0a;lay1a;lay2a;lay3a;", 2, 2);
            accountIs(3, ROW + "lay 0 a;", 0, 0);
            accountIs(3, ROW + "lay 0 a; lay 1 b; lay 2 a;", 1, 0);
            accountIs(3, "colours 1 passes 9; vertex; pass; pass; pass;", 0, 0);
        });
        s.says("4: different colours that the player laid", () -> {
            accountIs(4, ROW, 0, 0);
            accountIs(4, ACCOUNTS, 2, 1);
            accountIs(4, "colours 3;" + Check.vertices(7) + "lay0a;lay1b;lay2b;lay3b;lay4c;lay5b;lay6a;", 3, 1);
            accountIs(4, "colours 1 passes 9; vertex; pass; pass; pass;", 0, 0);
        });
        s.says("Throws IndexOutOfBoundsException if the player does not exist", () -> {
            for (int what = -1; what <= 5; what++) {
                int asked = what;
                Check.indices("what " + what + " of player", 2, p -> Check.board(ACCOUNTS).account(p, asked));
            }
        });
        s.says("Throws IllegalArgumentException for any other what", () -> {
            Check.numbers("what of player 0", 0, 4, what -> Check.board(ACCOUNTS).account(0, what));
            Check.numbers("what of player 1", 0, 4, what -> Check.board(ROW).account(1, what));
        });
    }
}
