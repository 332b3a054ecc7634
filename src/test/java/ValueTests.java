/** Promises 9 to 18: values, games and best moves. */
public final class ValueTests {
    private static final String ROW = "colours 2 passes 1; vertex; vertex; vertex; edge 0 1; edge 1 2;";
    private static final String POINTS = "colours 1; vertex; vertex; vertex; vertex; vertex; vertex;";

    public static void main(String[] args) {
        values();
        valuesIf();
        winners();
        bestMoves();
        bestWithoutWin();
        games();
        means();
        falling();
        without();
        valuesStayApart();
        bigBoards();
        Check.end("ValueTests");
    }

    private static void values() {
        ColourDuel x = Check.board(POINTS);
        for (int v = 0; v < 6; v++) {
            Check.due("points that are left: " + (6 - v), x.value(), (6 - v) % 2);
            x.lay(v, 0);
        }
        Check.due("a full board", x.value(), 0);
        for (int passes = 0; passes <= 9; passes++) {
            x.setPasses(passes);
            Check.due("passes alone: " + passes, x.value(), passes % 2);
            Check.due("their value: " + passes, x.count(12), passes % 2);
        }
        Check.due("a row and a pass", Check.board(ROW).value(), 0);
        ColourDuel bound = Check.board(ROW);
        bound.lay(0, 0);
        Check.due("two vertices, the second alone open to a", bound.part(0, 5), 2);
        Check.due("and the pass", bound.value(), 3);
        Check.due("two colours and a pair", Check.board(
                "colours 2; vertex; vertex; edge 0 1;").value(), 0);
        Check.due("one colour and a pair", Check.board(
                "colours 1; vertex; vertex; edge 0 1;").value(), 1);
        Check.due("the third colour is not banned at first", Check.board(
                "colours 3; vertex c; vertex c; edge 0 1;").value(), 1);
        ColourDuel banned = Check.board("colours 3; vertex; vertex; vertex c; edge 0 1; edge 1 2;");
        banned.lay(0, 2);
        Check.due("b and a in the middle leave c: 1; c at the end is banned", banned.value(), 0);
        ColourDuel nine = Check.board("colours 1;vertex;vertex;vertex;vertex;vertex;vertex;vertex;"
                + "vertex;vertex;");
        Check.due("nine points", nine.value(), 1);
        Check.due("nine parts", nine.count(5), 9);
        Check.due("the ninth part", nine.part(8, 1), 8);
    }

    private static void valuesIf() {
        ColourDuel x = Check.board(ROW);
        Check.due("in the middle", x.valueIf(1, 0), 1);
        Check.due("at the end", x.valueIf(0, 1), 3);
        Check.due("nothing was laid", x.count(7), 0);
        Check.due("equal values make 0", Check.board(
                "colours 1 passes 1; vertex; vertex;").valueIf(1, 0), 0);
        x.lay(0, 0);
        Check.throwsNoElement("not free", () -> x.valueIf(0, 1));
        Check.throwsNoElement("a neighbour", () -> x.valueIf(1, 0));
        Check.throwsNoElement("the ban", () -> x.valueIf(2, 0));
        Check.due("what is left", x.valueIf(2, 1), 1);
        Check.throwsIndex("vertex -1", () -> x.valueIf(-1, 0));
        Check.throwsIndex("vertex 3", () -> x.valueIf(3, 0));
        Check.throwsIndex("colour -1", () -> x.valueIf(0, -1));
        Check.throwsIndex("colour 2", () -> x.valueIf(0, 2));
        ColourDuel listed = Check.board("colours 2; vertex b;");
        Check.throwsNoElement("not in the list", () -> listed.valueIf(0, 0));
    }

    private static void winners() {
        ColourDuel x = Check.board(ROW);
        Check.due("a lost board", x.winningMoves(), 0);
        Check.due("no colours", x.winningColours(1), 0);
        x.setPasses(0);
        Check.due("the middle wins without passes", x.winningMoves(), 2);
        x.setPasses(2);
        Check.due("the middle wins", x.winningMoves(), 3);
        Check.due("with both colours", x.winningColours(1), 3);
        Check.due("the end does not", x.winningColours(0), 0);
        x.lay(1, 1);
        Check.due("none on a vertex that is not free", x.winningColours(1), 0);
        ColourDuel pass = Check.board("colours 1 passes 1; vertex; vertex; edge 0 1; lay 1 a;");
        Check.due("the pass alone wins", pass.winningMoves(), 1);
        ColourDuel both = Check.board("colours 3 passes 2; vertex cb;");
        Check.due("one move for each colour, and the pass", both.winningMoves(), 3);
        Check.due("the colours of the list", both.winningColours(0), 6);
        Check.due("over", Check.board("colours 1; vertex; lay 0 a;").winningMoves(), 0);
        Check.throwsIndex("vertex -1", () -> x.winningColours(-1));
        Check.throwsIndex("vertex 3", () -> x.winningColours(3));
    }

    private static void bestMoves() {
        ColourDuel x = Check.board(ROW);
        x.setPasses(0);
        Check.due("the lowest colour on the lowest vertex", x.bestMove(), 4);
        x.setPasses(2);
        Check.due("before the pass", x.bestMove(), 4);
        Check.due("a colour that is not a", Check.board("colours 3; vertex cb;").bestMove(), 1);
        Check.due("the pass wins alone", Check.board(
                "colours 1 passes 1; vertex; vertex; edge 0 1; lay 1 a;").bestMove(), 100);
        // each pair is worth 2 and leads to 0 and 1 alone, so no lay makes them equal
        Check.due("the pass wins, lays do not", Check.board("colours 2 passes 1; vertex; vertex a;"
                + " vertex; vertex b; edge 1 2; edge 0 3;").bestMove(), 100);
        Check.due("a lay goes before a pass that wins too", Check.board(
                "colours 2 passes 1; vertex; vertex; edge 0 1;").bestMove(), 0);
        Check.throwsNoElement("over", () -> Check.board("colours 1; vertex; lay 0 a;").bestMove());
        ColourDuel stuck = Check.board("colours 1; vertex; vertex; edge 0 1; lay 1 a;");
        Check.throwsNoElement("over with a free vertex", () -> stuck.bestMove());
    }

    private static void bestWithoutWin() {
        Check.due("the first among equal games", Check.board(
                "colours 1; vertex; vertex;").bestMove(), 0);
        // a on 0 ends the part, b on 0 leaves two moves in it, as does a on 2: b on 0 is the first
        ColourDuel fork = Check.board(
                "colours 2; vertex; vertex; vertex a; vertex a; edge 0 2; edge 0 3;");
        Check.due("a lost fork", fork.value(), 0);
        Check.due("the longest game, not the first move", fork.bestMove(), 1);
        ColourDuel forkAndPass = Check.board(
                "colours 2 passes 1; vertex; vertex a; vertex a; edge 0 1; edge 0 2;");
        Check.due("a lost fork and a pass", forkAndPass.value(), 0);
        Check.due("as long as with the pass, but before it", forkAndPass.bestMove(), 1);
        Check.due("a lost pass and a lost point", Check.board(
                "colours 1 passes 1; vertex;").bestMove(), 0);
        Check.due("two passes", Check.board(
                "colours 1 passes 2; vertex; lay 0 a;").bestMove(), 100);
    }

    private static void games() {
        Check.due("the longest game with the pass", Check.board(ROW).longest(), 4);
        Check.due("the shortest with the pass", Check.board(ROW).shortest(), 3);
        // the middle leaves three leaves; a on a leaf and b on the next leave no middle
        ColourDuel star = Check.board("colours 2 passes 9; vertex; vertex; vertex; vertex; vertex;"
                + " edge 0 1; edge 0 2; edge 0 3;");
        Check.due("the longest of the star", star.part(0, 6), 4);
        Check.due("the shortest of the star", star.part(0, 7), 3);
        Check.due("with a point and nine passes", star.longest(), 14);
        Check.due("the shortest with them", star.shortest(), 13);
        ColourDuel banned = Check.board("colours 1; vertex; vertex; vertex; vertex;"
                + " edge 0 1; edge 0 2; edge 0 3;");
        Check.due("a leaf bans the other leaves", banned.longest(), 1);
        banned.lay(1, 0);
        Check.due("so it is over", banned.count(9), 0);
        ColourDuel nine = Check.board("colours 2; vertex a;vertex b;vertex b;vertex b;vertex b;"
                + "vertex b;vertex b;vertex b;vertex b;edge 0 1;edge 0 2;edge 0 3;edge 0 4;"
                + "edge 0 5;edge 0 6;edge 0 7;edge 0 8;");
        Check.due("after one leaf the middle must come", nine.shortest(), 9);
        Check.due("so all games are as long", nine.longest(), 9);
        ColourDuel over = Check.board("colours 1; vertex; vertex; edge 0 1; lay 1 a;");
        Check.due("none", over.longest(), 0);
        Check.due("none at all", over.shortest(), 0);
        Check.due("none in the part", over.part(0, 6) + over.part(0, 7), 0);
    }

    private static void means() {
        Check.due("half", Check.board(
                "colours 1; vertex; vertex; vertex; edge 0 1; lay 0a;").meanValue(), 0.5f);
        Check.due("no parts", Check.board("colours 1; vertex; lay 0 a;").meanValue(), 0f);
        ColourDuel third = Check.board("colours 2 passes 9; vertex; vertex; vertex b; vertex;"
                + " vertex; vertex; vertex; edge 0 1; edge 2 3; edge 4 5; edge 5 6; edge 4 6;");
        Check.due("the parts alone", third.part(0, 5) + 10 * third.part(1, 5)
                + 100 * third.part(2, 5), 20);
        Check.due("a sum, not the exclusive or, without passes", third.meanValue(),
                (float) 2 / (float) 3);
        Check.due("one and one", Check.board("colours 1; vertex; vertex;").meanValue(), 1f);
    }

    private static void falling() {
        ColourDuel x = Check.board("colours 1; vertex; vertex; vertex; vertex; vertex;"
                + " edge 0 1; edge 0 2; edge 0 3;");
        Check.due("the middle", x.falls(0), 3);
        Check.due("a leaf", x.falls(1), 1);
        Check.due("a point", x.falls(4), 0);
        x.lay(1, 0);
        Check.due("where nothing can be laid too", x.falls(0), 2);
        Check.throwsNoElement("not free", () -> x.falls(1));
        Check.throwsIndex("vertex -1", () -> x.falls(-1));
        Check.throwsIndex("vertex 5", () -> x.falls(5));
    }

    private static void without() {
        ColourDuel x = Check.board(ROW);
        Check.due("the middle", x.valueWithout(1), 1);
        Check.due("the end", x.valueWithout(0), 1);
        ColourDuel row = Check.board("colours 2; vertex; vertex; vertex; vertex; vertex;"
                + " edge 0 1; edge 1 2; edge 2 3; edge 3 4;");
        row.lay(0, 0);
        // 2-3-4 without a: the ends and the middle are open to b alone; 1 to b
        Check.due("what is left has the old ban", row.valueWithout(1), valueOfBanned());
        // 3-4 under the ban is open to b alone, and then to a alone: 0; 1 alone: 1
        Check.due("one alone, and 3-4 under the ban", row.valueWithout(2), 1);
        Check.due("nothing changes", row.count(4), 4);
        Check.throwsNoElement("not free", () -> row.valueWithout(0));
        Check.throwsIndex("vertex -1", () -> row.valueWithout(-1));
        Check.throwsIndex("vertex 5", () -> row.valueWithout(5));
        ColourDuel banned = Check.board(
                "colours 1; vertex; vertex; vertex; edge 0 1; edge 1 2; lay 0 a;");
        Check.due("nothing can be laid under the ban", banned.value(), 0);
        Check.due("but on a vertex that is left alone", banned.valueWithout(1), 1);
        Check.due("the same at the other end", Check.board("colours 1; vertex; vertex; vertex;"
                + " edge 0 1; edge 1 2; lay 2 a;").valueWithout(1), 1);
        Check.due("and the pass with it", Check.board("colours 1 passes 1; vertex; vertex; vertex;"
                + " edge 0 1; edge 1 2; lay 0 a;").valueWithout(1), 0);
        Check.due("the last vertex", Check.board("colours 1 passes 3; vertex;").valueWithout(0), 1);
    }

    /**
     * The row 2-3-4 of two colours under the ban a. b at an end leaves two, the near one open
     * to a alone, under the ban b: a on it leaves b for the last (1), a on the last leaves
     * nothing (0): 2. b in the middle leaves two points that are open to a: 0. So the row is
     * worth the least number that is neither 2 nor 0.
     */
    private static int valueOfBanned() {
        return 1;
    }

    private static void valuesStayApart() {
        ColourDuel x = Check.board("colours 1; vertex; vertex; edge 0 1;");
        Check.due("a pair", x.value(), 1);
        Check.load(x, "colours 1; vertex; vertex;");
        Check.due("two points, asked behind the pair", x.value(), 0);
        Check.load(x, "colours 2; vertex; vertex; edge 0 1;");
        Check.due("a pair with two colours", x.value(), 0);
        x.undo();
        Check.due("the points again", x.value(), 0);
        x.undo();
        Check.due("the pair again", x.value(), 1);
        Check.due("its longest game", x.longest(), 1);
        ColourDuel row = Check.board("colours 2; vertex; vertex; vertex; edge 0 1; edge 1 2;");
        row.save(0);
        Check.due("a row", row.value(), 1);
        Check.load(row, "colours 2; vertex; vertex; vertex; edge 0 1; edge 1 2; edge 2 0;");
        Check.due("a triangle, asked behind the row", row.value(), 0);
        row.restore(0);
        Check.due("the row of the slot", row.value(), 1);
        row.undo();
        Check.due("the triangle again", row.value(), 0);
        row.undo();
        Check.due("the row again", row.value(), 1);
    }

    private static void bigBoards() {
        StringBuilder grid = new StringBuilder("colours 2;");
        for (int v = 0; v < 9; v++) {
            grid.append("vertex;");
        }
        for (int v = 0; v < 9; v++) {
            grid.append(v % 3 < 2 ? "edge " + v + " " + (v + 1) + ";" : "");
            grid.append(v < 6 ? "edge " + v + " " + (v + 3) + ";" : "");
        }
        ColourDuel x = Check.board(grid.toString());
        Check.due("the edges of a grid", x.count(1), 12);
        boolean won = x.value() != 0;
        Check.due("who can win does", won, x.winningMoves() > 0);
        int played = x.playOut(20);
        Check.due("the winner of the grid", x.count(9), won ? 0 : 1);
        Check.due("moves in turn", x.count(7), played);
    }
}
