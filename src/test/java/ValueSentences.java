import java.util.List;

/** Promises 9 to 18. */
final class ValueSentences {
    private static final String NINE = Check.vertices(9);
    private static final String ROW = "colours 2 passes 1; vertex; vertex; vertex; edge 0 1; edge 1 2;";
    private static final String STUCK = "colours 1; vertex; vertex; edge 0 1; lay 1 a;";
    private static final String FULL = "colours 1; vertex; lay 0 a;";
    private static final String STAR = NINE + "edge 0 1;edge 0 2;edge 0 3;edge 0 4;edge 0 5;edge 0 6;"
            + "edge 0 7;edge 0 8;";

    private ValueSentences() {
    }

    static void all(Sentences s) {
        value(s);
        valueIf(s);
        winningMoves(s);
        bestMove(s);
        bestMoveTold(s);
        games(s);
        meanValue(s);
        winningColours(s);
        falls(s);
        valueWithout(s);
        valueWithoutBans(s);
    }

    private static void value(Sentences s) {
        s.section("Promise 9");
        s.says("Returns the value of the board.", () -> {
            int[] due = {3, 5, 5, 6, 7, 1, 0};
            for (int k = 0; k < due.length; k++) {
                Check.due("value of " + TermSentences.SMALL[k], Check.board(TermSentences.SMALL[k]).value(), due[k]);
            }
            Check.due("over", Check.board(STUCK).value(), 0);
            Check.due("no part", Check.board(FULL).value(), 0);
            ColourDuel passes = Check.board("colours 1 passes 9; vertex; lay 0 a;");
            Check.due("nine passes alone", passes.value(), 1);
            Check.due("nine parts", Check.board("colours 3;" + Check.vertices(7)).value(), 1);
            Check.due("and nine passes", Check.board("colours 1 passes 9;" + NINE).value(), 0);
        });
        s.namesNoBound("Returns the value.");
    }

    private static void valueIf(Sentences s) {
        s.section("Promise 10");
        s.namesNoBound("vertex: number of a vertex", "colour: number of a colour", "Returns the value.");
        s.says("Returns the value that the board would have behind a lay.", () -> {
            for (String text : TermSentences.SMALL) {
                ColourDuel x = Check.board(text);
                for (int v = 0; v < x.count(0); v++) {
                    for (int c = 0; c < x.count(2); c++) {
                        if (x.reason(v, c) == 0) {
                            int told = x.valueIf(v, c);
                            x.lay(v, c);
                            Check.due(v + " and " + c + " of " + text, told, x.value());
                            x.undo();
                        }
                    }
                }
            }
            Check.due("behind the last lay", Check.board("colours 1; vertex;").valueIf(0, 0), 0);
            Check.due("with nine passes", Check.board("colours 1 passes 9; vertex;").valueIf(0, 0), 1);
        });
        s.says("Throws IndexOutOfBoundsException if the vertex or the colour does not exist", () -> {
            for (int colours = 1; colours <= 3; colours++) {
                ColourDuel x = Check.board("colours " + colours + "; vertex; vertex; lay 0 a;");
                Check.indices("vertex", 2, v -> x.valueIf(v, 0));
                Check.indices("colour of a free vertex", colours, c -> x.valueIf(1, c));
                Check.indices("colour of another vertex", colours, c -> x.valueIf(0, c));
            }
        });
        s.says("Throws NoSuchElementException if the colour cannot be laid on the vertex", () -> {
            ColourDuel x = Check.board("colours 3; vertex; vertex ab; vertex; vertex; edge 0 1; edge 1 2;"
                    + " edge 2 3; lay 0 a;");
            for (int c = 0; c < 3; c++) {
                int colour = c;
                Check.throwsNoElement("not free", () -> x.valueIf(0, colour));
            }
            Check.throwsNoElement("not in the list", () -> x.valueIf(1, 2));
            Check.throwsNoElement("a neighbour", () -> x.valueIf(1, 0));
            Check.throwsNoElement("the ban", () -> x.valueIf(3, 0));
            Check.due("nothing of these", x.valueIf(3, 2) >= 0, true);
            Check.throwsNoElement("over", () -> Check.board(STUCK).valueIf(0, 0));
        });
    }

    private static void winningMoves(Sentences s) {
        s.section("Promise 11");
        s.says("Counts the moves that win: pairs of a vertex and a colour", () -> {
            Check.due("none", Check.board(ROW).winningMoves(), 0);
            Check.due("one", Check.board("colours 1; vertex;").winningMoves(), 1);
            Check.due("each colour", Check.board("colours 3; vertex;").winningMoves(), 3);
            Check.due("all of nine", Check.board("colours 2;" + NINE).winningMoves(), 18);
            Check.due("all of eight", Check.board("colours 2;" + Check.vertices(8)).winningMoves(), 0);
            Check.due("over", Check.board(STUCK).winningMoves(), 0);
            Check.due("full", Check.board(FULL).winningMoves(), 0);
        });
        s.says("and 1 more if passing wins.", () -> {
            Check.due("the pass alone", Check.board("colours 1 passes 1; vertex; lay 0 a;").winningMoves(), 1);
            Check.due("two passes", Check.board("colours 1 passes 2; vertex; lay 0 a;").winningMoves(), 0);
            Check.due("and the lays", Check.board("colours 2 passes 1;" + Check.vertices(8)).winningMoves(), 17);
            Check.due("no pass is left", Check.board("colours 1; vertex; vertex; lay 0 a;").winningMoves(), 1);
            Check.due("no pass is left to make the value 0", Check.board("colours 2;" + NINE).winningMoves(), 18);
        });
        s.namesNoBound("Returns the number of moves.");
    }

    private static void bestMove(Sentences s) {
        s.section("Promise 12");
        s.says("Returns a move: the one that wins with the lowest vertex", () -> {
            Check.due("the first of all", Check.board("colours 1; vertex; vertex; vertex;").bestMove(), 0);
            Check.due("not a lower one that does not win", Check.board(ROW + "pass;").bestMove(), 4);
            Check.due("the last one", Check.board(
                    "colours 1; vertex; vertex; vertex; edge 0 1; lay 1 a;").bestMove(), 8);
        });
        s.says("then the lowest colour", () -> {
            Check.due("a", Check.board("colours 3; vertex;").bestMove(), 0);
            Check.due("b", Check.board("colours 3; vertex cb;").bestMove(), 1);
            Check.due("c", Check.board("colours 3; vertex c;").bestMove(), 2);
            // b on 0 leaves nothing for 1, a leaves one more lay
            Check.due("not a lower one that does not win", Check.board(
                    "colours 2; vertex; vertex b; edge 0 1;").bestMove(), 1);
        });
        s.says("a pass behind all of these", () -> {
            Check.due("a lay wins as well", Check.board("colours 1 passes 1; vertex; vertex;").bestMove(), 0);
            Check.due("the pass alone wins", Check.board("colours 2 passes 1; vertex; vertex a; vertex; vertex b;"
                    + "edge 1 2; edge 0 3;").bestMove(), 100);
            Check.due("there is no lay", Check.board("colours 1 passes 1; vertex; lay 0 a;").bestMove(), 100);
        });
        s.says("if none wins, the one by which the longest game of the board behind it is greatest", () -> {
            // a on 0 ends the part; b on 0 leaves two moves
            Check.due("not the first", Check.board("colours 2; vertex; vertex; vertex a; vertex a;"
                    + " edge 0 2; edge 0 3;").bestMove(), 1);
            Check.due("a later vertex", Check.board("colours 2; vertex a; vertex a; vertex; vertex;"
                    + " edge 0 1; edge 2 0; edge 2 1;").bestMove(), longestBehind(
                    "colours 2; vertex a; vertex a; vertex; vertex; edge 0 1; edge 2 0; edge 2 1;"));
            for (String text : TermSentences.SMALL) {
                ColourDuel x = Check.board(text);
                if (x.winningMoves() == 0 && x.count(8) == 0) {
                    Check.due("best of " + text, x.bestMove(), longestBehind(text));
                }
            }
            // b on 0 leaves the fork with games of 1 to 3; a in the fork leaves 3 moves for sure
            Check.due("not the longest shortest game", Check.board("colours 2; vertex b; vertex;"
                    + " vertex b; vertex b; edge 1 2; edge 1 3;").bestMove(), 1);
            Check.due("a pass where there is no lay", Check.board(
                    "colours 1 passes 2; vertex; lay 0 a;").bestMove(), 100);
        });
        s.says("(in the same order among several).", () -> {
            Check.due("the lowest vertex", Check.board("colours 1; vertex; vertex;").bestMove(), 0);
            Check.due("the lowest colour", Check.board("colours 3; vertex bc; vertex;").bestMove(), 1);
            Check.due("a lay before a pass", Check.board("colours 1 passes 1; vertex;").bestMove(), 0);
            Check.due("a lay before nine passes", Check.board("colours 1 passes 9; vertex; vertex; vertex;"
                    + "lay 0a;lay 2a;").bestMove(), 4);
        });
    }

    /** The first of the lays by which the longest game is greatest. */
    private static int longestBehind(String text) {
        ColourDuel x = Check.board(text);
        int best = 100;
        int longest = -1;
        for (int v = 0; v < x.count(0); v++) {
            for (int c = 0; c < x.count(2); c++) {
                if (x.reason(v, c) == 0) {
                    x.lay(v, c);
                    int behind = Probe.played(x, Probe.allVertices(x), true).get(1);
                    x.undo();
                    best = behind > longest ? 4 * v + c : best;
                    longest = Math.max(behind, longest);
                }
            }
        }
        return best;
    }

    private static void bestMoveTold(Sentences s) {
        s.says("Returns 4 times the vertex plus the colour; 100 for a pass.", () -> {
            for (int v = 0; v < 9; v++) {
                StringBuilder text = new StringBuilder("colours 2;");
                for (int u = 0; u < 9; u++) {
                    text.append("vertex ").append(u == v ? "b;" : "a;");
                }
                for (int u = 0; u < 9; u++) {
                    text.append(u == v ? "" : "lay " + u + "a;");
                }
                Check.due("b on " + v, Check.board(text.toString()).bestMove(), 4 * v + 1);
            }
            Check.due("c on 6", Check.board("colours 3; vertex a; vertex a; vertex a; vertex a; vertex a;"
                    + " vertex a; vertex c; lay 0a;lay 1a;lay 2a;lay 3a;lay 4a;lay 5a;").bestMove(), 26);
            Check.due("a pass", Check.board("colours 1 passes 9; vertex; lay 0 a;").bestMove(), 100);
        });
        s.says("Throws NoSuchElementException if the game is over", () -> {
            Check.throwsNoElement("full", () -> Check.board(FULL).bestMove());
            Check.throwsNoElement("stuck", () -> Check.board(STUCK).bestMove());
            Check.throwsNoElement("banned", () -> Check.board(
                    "colours 1; vertex; vertex; vertex; edge 0 1; edge 1 2; lay 0 a;").bestMove());
            ColourDuel x = Check.board(STUCK);
            x.setPasses(1);
            Check.due("a pass is left", x.bestMove(), 100);
            x.pass();
            Check.throwsNoElement("no more", () -> x.bestMove());
        });
    }

    private static void games(Sentences s) {
        s.section("Promise 13");
        s.says("Returns the longest game of the board.", () -> {
            Check.due("none", Check.board(STUCK).longest(), 0);
            Check.due("no part", Check.board(FULL).longest(), 0);
            Check.due("one", Check.board("colours 3; vertex;").longest(), 1);
            Check.due("passes", Check.board("colours 1 passes 9; vertex; lay 0 a;").longest(), 9);
            Check.due("the middle first", Check.board("colours 2;" + STAR).longest(), 9);
            Check.due("all there can be", Check.board("colours 2 passes 9;" + STAR).longest(), 18);
            Check.due("one of two", Check.board("colours 1 passes 2; vertex; vertex; edge 0 1;").longest(), 3);
        });
        s.namesNoBound("Returns the number of moves.");
        s.section("Promise 14");
        s.says("Returns the shortest game of the board.", () -> {
            Check.due("none", Check.board(STUCK).shortest(), 0);
            Check.due("no part", Check.board(FULL).shortest(), 0);
            Check.due("one", Check.board("colours 3; vertex;").shortest(), 1);
            Check.due("passes", Check.board("colours 1 passes 9; vertex; lay 0 a;").shortest(), 9);
            Check.due("the middle ends it", Check.board("colours 1 passes 1;" + STAR).shortest(), 2);
            Check.due("all nine, behind a leaf the middle must come", Check.board("colours 2; vertex a;"
                    + "vertex b;".repeat(8) + STAR.substring(NINE.length())).shortest(), 9);
            Check.due("all leaves, and the middle stays", Check.board("colours 2;" + STAR).shortest(), 8);
            Check.due("all there can be", Check.board("colours 1 passes 9;" + NINE).shortest(), 18);
        });
        s.namesNoBound("Returns the number of moves.");
    }

    private static void mean(String text, int sum, int parts) {
        ColourDuel x = Check.board(text);
        Check.due("parts of " + text, x.count(5), parts);
        Check.due("mean of " + text, x.meanValue(), (float) sum / (float) parts);
    }

    private static void meanValue(Sentences s) {
        s.section("Promise 15");
        s.says("Returns the sum of the values of all parts, converted to float, divided by the number of parts.", () -> {
            String five = TermSentences.SMALL[2];
            mean(five, 5, 1);
            mean("colours 1 passes 9;" + NINE, 9, 9);
            mean("colours 2; vertex; vertex; vertex; edge 0 1;", 1, 2);
            mean("colours 2 passes 1; vertex; vertex; vertex; vertex; edge 0 1;", 2, 3);
            mean("colours 2; vertex; vertex; vertex; vertex; vertex; edge 0 1; edge 2 3;", 1, 3);
            mean("colours 2 passes 1; vertex; vertex a; vertex; vertex; vertex; edge 0 1;", 5, 4);
            mean("colours 2; vertex; vertex; edge 0 1;", 0, 1);
            mean("colours 2; vertex;vertex a;vertex;vertex;vertex;vertex;vertex;vertex;edge 0 1;", 8, 7);
        });
        s.says("Returns the quotient; 0 without parts.", () -> {
            Check.due("no part", Check.board(FULL).meanValue(), 0f);
            Check.due("but passes", Check.board("colours 1 passes 9; vertex; lay 0 a;").meanValue(), 0f);
            Check.due("no part of nine", Check.board("colours 1;" + NINE + "lay0a;lay1a;lay2a;lay3a;lay4a;"
                    + "lay5a;lay6a;lay7a;lay8a;").meanValue(), 0f);
        });
    }

    private static void winningColours(Sentences s) {
        s.section("Promise 16");
        s.namesNoBound("vertex: number of a vertex");
        s.says("Returns the colours by which a lay on a vertex wins.", () -> {
            for (String text : TermSentences.SMALL) {
                ColourDuel x = Check.board(text);
                for (int v = 0; v < x.count(0); v++) {
                    int set = 0;
                    for (int c = 0; c < x.count(2); c++) {
                        set |= x.reason(v, c) == 0 && x.valueIf(v, c) == 0 ? 1 << c : 0;
                    }
                    Check.due(v + " of " + text, x.winningColours(v), set);
                }
            }
            Check.due("not free", Check.board("colours 3; vertex; vertex; lay 0 c;").winningColours(0), 0);
            Check.due("not a pass", Check.board("colours 1 passes 1; vertex; lay 0 a;").winningColours(0), 0);
        });
        s.says("Returns the colours, as a set.", () -> {
            String[] lists = {"a", "b", "ab", "c", "ac", "bc", "abc"};
            for (int set = 1; set <= 7; set++) {
                ColourDuel x = Check.board("colours 3; vertex " + lists[set - 1] + ";");
                Check.due("all of " + lists[set - 1], x.winningColours(0), set);
                x.setPasses(1);
                Check.due("none of " + lists[set - 1], x.winningColours(0), 0);
            }
        });
        s.says("Throws IndexOutOfBoundsException if the vertex does not exist", () -> {
            for (int n = 1; n <= 9; n++) {
                ColourDuel x = Check.board("colours 1;" + Check.vertices(n) + "lay 0 a;");
                Check.indices("vertex", n, v -> x.winningColours(v));
            }
        });
    }

    private static void falls(Sentences s) {
        s.section("Promise 17");
        s.namesNoBound("vertex: number of a vertex", "Returns the number of parts.");
        s.says("Tells into how many parts the part of a vertex would fall if a colour was laid on the vertex"
                + " (the same for all colours).", () -> {
            ColourDuel star = Check.board("colours 2;" + STAR);
            Check.due("eight", star.falls(0), 8);
            Check.due("one", star.falls(8), 1);
            star.lay(0, 0);
            Check.due("none", star.falls(8), 0);
            Check.due("none of nine parts", Check.board("colours 1;" + NINE).falls(4), 0);
            Check.due("a ring", Check.board("colours 1;" + Check.vertices(4)
                    + "edge 0 1;edge 1 2;edge 2 3;edge 3 0;").falls(2), 1);
            ColourDuel other = Check.board("colours 1;" + NINE + "edge 0 1;edge 1 2;edge 4 5;edge 7 8;");
            Check.due("not the other parts", other.falls(1), 2);
            ColourDuel stuck = Check.board("colours 1;" + Check.vertices(5)
                    + "edge 0 1;edge 1 2;edge 2 3;edge 3 4;lay 0 a;");
            Check.due("nothing can be laid there", stuck.vertex(2, 2), 0);
            Check.due("two all the same", stuck.falls(2), 2);
            Check.due("not through what is not free", stuck.falls(1), 1);
        });
        s.says("Throws IndexOutOfBoundsException if the vertex does not exist", () -> {
            for (int n = 1; n <= 9; n++) {
                ColourDuel x = Check.board("colours 1;" + Check.vertices(n) + "lay 0 a;");
                Check.indices("vertex", n, v -> x.falls(v));
            }
        });
        s.says("Throws NoSuchElementException if it is not free", () -> {
            ColourDuel x = Check.board("colours 3; vertex; vertex; lay 0 c;");
            Check.throwsNoElement("not free", () -> x.falls(0));
            Check.due("free", x.falls(1), 0);
            x.undo();
            Check.throwsNoElement("undone", () -> Check.board(FULL).falls(0));
            Check.due("free again", x.falls(0), 0);
        });
    }

    private static void valueWithout(Sentences s) {
        s.section("Promise 18");
        s.namesNoBound("vertex: number of a vertex", "Returns the value.");
        s.says("Returns the value that the board would have if a vertex was not free, but without a colour", () -> {
            ColourDuel three = Check.board("colours 3; vertex bc; vertex a; vertex b; edge 0 2; edge 1 2;");
            Check.due("two points", three.valueWithout(2), 0);
            Check.due("bc beside b, a alone", three.valueWithout(1), Check.board(
                    "colours 3; vertex bc; vertex b; edge 0 1;").value());
            Check.due("a beside b", three.valueWithout(0), Check.board(
                    "colours 3; vertex a; vertex b; edge 0 1;").value());
            Check.due("the last vertex", Check.board("colours 1; vertex;").valueWithout(0), 0);
            Check.due("and the passes", Check.board("colours 1 passes 9; vertex;").valueWithout(0), 1);
            Check.due("and the other parts", Check.board("colours 1 passes 9; vertex; vertex;").valueWithout(1), 0);
            Check.due("the neighbours keep all colours", Check.board(
                    "colours 1; vertex; vertex; vertex; vertex; edge 0 1; edge 0 2; edge 0 3;").valueWithout(0), 1);
            ColourDuel beside = Check.board("colours 2; vertex; vertex; vertex a; edge 0 1; edge 1 2; lay 0 a;");
            Check.due("but those of the laid ones", beside.valueWithout(2), 1);
        });
        s.says("the parts that would come from its part would have its ban.", () -> {
            String row = "colours 1; vertex; vertex; vertex; vertex; edge 0 1; edge 1 2; edge 2 3; lay 0 a;";
            Check.due("two under the ban", Check.board(row).valueWithout(1), 0);
            Check.due("one alone, where it does not count", Check.board(row).valueWithout(2), 1);
            Check.due("without a ban", Check.board(row.replace("lay 0 a;", "")).valueWithout(0), 1);
            ColourDuel apart = Check.board("colours 2;" + Check.vertices(6)
                    + "edge 0 1;edge 1 2;edge 3 4;edge 4 5;lay 0 a;");
            Check.due("the ban of another part does not count", apart.part(0, 2), 0);
            Check.due("two pieces without a ban", apart.valueWithout(4), apart.part(0, 5));
        });
    }

    private static void valueWithoutBans(Sentences s) {
        s.says("Throws IndexOutOfBoundsException if the vertex does not exist", () -> {
            for (int n = 1; n <= 9; n++) {
                ColourDuel x = Check.board("colours 1;" + Check.vertices(n) + "lay 0 a;");
                Check.indices("vertex", n, v -> x.valueWithout(v));
            }
        });
        s.says("Throws NoSuchElementException if it is not free", () -> {
            ColourDuel x = Check.board("colours 3 passes 1; vertex; vertex; lay 0 c;");
            List<String> before = List.of(Probe.board(x));
            Check.throwsNoElement("not free", () -> x.valueWithout(0));
            Check.due("free", x.valueWithout(1), 1);
            Check.due("nothing changes", List.of(Probe.board(x)), before);
            Check.throwsNoElement("no vertex is free", () -> Check.board(FULL).valueWithout(0));
        });
    }
}
