import java.util.List;

/** What the document says before its promises: what it is, and sections 1 to 3 of the terms. */
final class TermSentences {
    private static final String NINE = Check.vertices(9);
    /** 0 in the middle of three arms of two; 7 and 8 are a part of their own. */
    private static final String ARMS = "colours 2;" + NINE
            + "edge 0 1;edge 1 2;edge 0 3;edge 3 4;edge 0 5;edge 5 6;edge 7 8;";
    private static final String ROW = "colours 2; vertex; vertex; vertex; edge 0 1; edge 1 2;";
    /** Boards of all kinds that are over after at most eight moves. */
    static final String[] SMALL = {
        "colours 3; vertex bc; vertex a; vertex b; edge 0 2; edge 1 2;",
        "colours 3 passes 1; vertex ab; vertex a; vertex bc; vertex c; edge 0 1; edge 0 2; edge 1 3;",
        "colours 3; vertex c; vertex c; vertex bc; vertex ab; vertex a; edge 0 2; edge 1 3; edge 2 3; edge 2 4;",
        "colours 3; vertex c; vertex ab; vertex b; vertex abc; vertex c; vertex ac; edge 0 1; edge 0 3; edge 2 4;"
            + " edge 1 5; edge 4 5;",
        "colours 2; vertex ab; vertex b; vertex ab; vertex a; vertex ab; vertex ab; vertex ab; edge 0 2;"
            + " edge 1 3; edge 0 4; edge 4 5; edge 2 6; edge 3 6;",
        "colours 1; vertex;",
        "colours 1 passes 4; vertex; lay 0 a;",
        "colours 2 passes 1; vertex; vertex; vertex; edge 0 1; edge 1 2;",
        "colours 3; vertex; vertex ab; vertex c; edge 0 1; edge 1 2; edge 0 2;",
        "colours 2 passes 2; vertex; vertex; vertex a; vertex b; edge 0 2; edge 0 3; edge 1 2;",
        "colours 2 passes 1; vertex; vertex; vertex; vertex; edge 0 1; edge 2 3; lay 0 a;",
        "colours 3 passes 1; vertex; vertex bc; vertex ac; vertex; edge 0 1; edge 1 2; edge 2 3; lay 0 b;",
        "colours 1 passes 3; vertex; vertex; vertex; edge 0 1; edge 1 2; lay 0 a;",
        "colours 2; vertex; vertex; vertex; vertex; vertex b; edge 0 1; edge 1 2; edge 2 3; edge 3 4; lay 0 a;",
        "colours 2;" + NINE + "edge 0 1;edge 1 2;edge 2 0;edge 3 4;edge 5 6;edge 7 8;lay 0a;lay 3b;lay 4a;"
            + "lay 5a;lay 1b;",
    };

    private TermSentences() {
    }

    static void all(Sentences s) {
        whatItIs(s);
        sizes(s);
        positions(s);
        parts(s);
        bans(s);
        turns(s);
        ends(s);
        reasons(s);
        values(s);
        valuesTogether(s);
        games(s);
        notPromised(s);
    }

    private static void whatItIs(Sentences s) {
        s.section("What it is");
        s.namesNoBound("A duel on a graph: two players lay colours on free vertices in turn,"
                + " neighbours never have the same colour, the colour that was laid last in a part"
                + " may not be copied there, passes are saved for all, and who cannot do anything"
                + " loses; boards fall apart into parts, and the value of a board is that of its"
                + " parts put together.");
        s.says("An object is used for at most 512 calls after it has been made;"
                + " what later calls answer is free.", () -> {
            ColourDuel x = new ColourDuel();
            for (int call = 1; call <= 511; call++) {
                Check.due("call " + call, call % 2 == 1 ? x.setPasses(9) : x.playOut(20),
                        call % 2 == 1 ? 0 : call == 2 ? 10 : 9);
            }
            Check.due("call 512", x.count(7), 2296);
            ColourDuel loads = new ColourDuel();
            for (int call = 1; call <= 510; call += 2) {
                Check.due("call " + call, Check.append(loads, "colours 1;vertex;"), 20);
                Check.due("call " + (call + 1), loads.load(17), 1);
            }
            Check.due("call 511", loads.value(), 1);
            Check.due("call 512", loads.undo(), 7);
        });
    }

    private static void sizes(Sentences s) {
        s.section("1. THE BOARD");
        s.says("A board has 1 to 9 vertices, numbered from 0", () -> {
            Check.bad(ColourDuel.SYNTAX_ERROR, "colours 1; ^");
            for (int n = 1; n <= 9; n++) {
                ColourDuel x = Check.board("colours 1;" + Check.vertices(n));
                Check.due("vertices", x.count(0), n);
                Check.indices("vertex", n, v -> x.vertex(v, 0));
            }
            Check.bad(ColourDuel.TOO_MANY, "colours 1;" + NINE + "^vertex;");
        });
        s.says("edges between different vertices (at most one between two of them,"
                + " which are neighbours then)", () -> {
            StringBuilder all = new StringBuilder("colours 1;" + NINE);
            for (int one = 0; one < 9; one++) {
                for (int other = 0; other < one; other++) {
                    all.append("edge ").append(other).append(' ').append(one).append(';');
                }
                Check.bad(ColourDuel.VALUE_ERROR, "colours 1;" + NINE + "edge " + one + " ^" + one + ";");
            }
            ColourDuel none = Check.board("colours 1;" + NINE);
            ColourDuel x = Check.board(all.toString());
            Check.due("no edge", none.count(1), 0);
            Check.due("all edges", x.count(1), 36);
            for (int v = 0; v < 9; v++) {
                Check.due("no neighbours of " + v, none.vertex(v, 3), 0);
                Check.due("neighbours of " + v, x.vertex(v, 3), 8);
            }
            Check.bad(ColourDuel.TWICE, all + "edge 8 ^0;");
        });
        s.says("1 to 3 colours, numbered from 0", () -> {
            Check.bad(ColourDuel.VALUE_ERROR, "colours ^0; vertex;");
            for (int colours = 1; colours <= 3; colours++) {
                ColourDuel x = Check.board("colours " + colours + "; vertex;");
                Check.due("colours", x.count(2), colours);
                Check.indices("colour", colours, c -> x.reason(0, c));
            }
            Check.bad(ColourDuel.VALUE_ERROR, "colours ^4; vertex;");
        });
        s.says("and passes that are left (0 to 9)", () -> {
            for (int passes = 0; passes <= 9; passes++) {
                ColourDuel x = Check.board("colours 1 passes " + passes + "; vertex;");
                Check.due("passes of the text", x.count(3), passes);
                Check.due("and no more", x.playOut(20), passes + 1);
                Check.due("none is left", x.count(3), 0);
            }
            Check.bad(ColourDuel.VALUE_ERROR, "colours 1 passes ^10; vertex;");
            Check.throwsArgument("-1", () -> new ColourDuel().setPasses(-1));
            Check.throwsArgument("10", () -> new ColourDuel().setPasses(10));
        });
    }

    private static void positions(Sentences s) {
        s.says("Each vertex has a list of colours (at least one).", () -> {
            String[] lists = {"a", "b", "ab", "c", "ac", "bc", "abc"};
            for (int set = 1; set <= 7; set++) {
                ColourDuel x = Check.board("colours 3; vertex " + lists[set - 1] + "; vertex c;");
                Check.due("the list " + lists[set - 1], x.vertex(0, 1), set);
                Check.due("the list beside it", x.vertex(1, 1), 4);
            }
            Check.due("a list that is not written", Check.board("colours 3; vertex;").vertex(0, 1), 7);
        });
        s.says("A vertex is free or has a colour.", () -> {
            ColourDuel x = Check.board("colours 3; vertex; vertex; vertex; lay 1 c; lay 2 a;");
            Check.due("free", x.vertex(0, 0), ColourDuel.NONE);
            Check.due("the last colour", x.vertex(1, 0), 2);
            Check.due("the first colour", x.vertex(2, 0), 0);
            Check.due("one is free", x.count(4), 1);
        });
        s.says("The number of colours plus 1, to the power of the number of vertices,"
                + " is at most 20000.", () -> {
            int[] most = {9, 9, 7};
            for (int colours = 1; colours <= 3; colours++) {
                int n = most[colours - 1];
                String text = "colours " + colours + ";" + Check.vertices(n);
                Check.due("the most with " + colours, Check.load(new ColourDuel(), text), n);
                Check.bad(ColourDuel.TOO_MANY, text + "^vertex;");
            }
        });
    }

    private static void parts(Sentences s) {
        s.says("The free vertices are divided into parts: two free vertices are in the same part if"
                + " one can be reached from the other along edges between free vertices.", () -> {
            ColourDuel x = Check.board("colours 2;" + NINE + "edge 0 8;edge 8 1;edge 1 7;edge 7 2;"
                    + "edge 2 6;edge 6 3;edge 3 5;edge 5 4;");
            Check.due("one long part", x.count(5), 1);
            Check.due("all of it", x.part(0, 0), 9);
            Check.due("its end", x.vertex(4, 4), 0);
            x.lay(2, 0);
            Check.due("not through a vertex that is not free", x.count(5), 2);
            Check.due("one side", Probe.verticesOfPart(x, 0), List.of(0, 1, 7, 8));
            Check.due("the other side", Probe.verticesOfPart(x, 1), List.of(3, 4, 5, 6));
            ColourDuel ring = Check.board("colours 2; vertex;vertex;vertex;vertex;"
                    + "edge 0 1;edge 1 2;edge 2 3;edge 3 0;lay 1 b;");
            Check.due("round a ring", ring.count(5), 1);
            ring.lay(3, 0);
            Check.due("not any more", ring.count(5), 2);
            Check.due("no edge, no part together", Check.board("colours 1;" + NINE).count(5), 9);
            Check.due("no free vertex", Check.board("colours 1; vertex; lay 0 a;").count(5), 0);
        });
        s.says("Parts are numbered from 0 in the order of their least vertices.", () -> {
            ColourDuel x = Check.board("colours 2;" + NINE + "edge 0 8;edge 1 7;edge 2 6;edge 3 5;");
            int[] numbers = {0, 1, 2, 3, 4, 3, 2, 1, 0};
            for (int v = 0; v < 9; v++) {
                Check.due("the part of " + v, x.vertex(v, 4), numbers[v]);
            }
            for (int p = 0; p < 5; p++) {
                Check.due("the least vertex of " + p, x.part(p, 1), p);
            }
            x.lay(0, 0);
            Check.due("8 is the last one now", x.vertex(8, 4), 4);
            Check.due("1 the first", x.vertex(1, 4), 0);
        });
    }

    private static void bans(Sentences s) {
        s.says("Each part has a ban: a colour, or none (as all have at first).", () -> {
            ColourDuel x = Check.board(ARMS);
            Check.due("at first", List.of(x.part(0, 2), x.part(1, 2)), List.of(-1, -1));
            x.lay(2, 1);
            Check.due("a colour", List.of(x.part(0, 2), x.part(1, 2)), List.of(1, -1));
            x.lay(1, 0);
            Check.due("the first colour", List.of(x.part(0, 2), x.part(1, 2)), List.of(0, -1));
            Check.load(x, ARMS);
            Check.due("at first again", List.of(x.part(0, 2), x.part(1, 2)), List.of(-1, -1));
            Check.due("a new object", new ColourDuel().part(0, 2), ColourDuel.NONE);
        });
        s.says("The colours that can be laid on a free vertex are those of its list that no"
                + " neighbour has and that are not the ban of its part", () -> {
            ColourDuel x = Check.board("colours 3; vertex; vertex; vertex bc; vertex a; vertex;"
                    + "edge 0 1;edge 1 2;edge 2 3;edge 0 4;");
            int[] lists = {7, 7, 6, 1, 7};
            for (int v = 0; v < 5; v++) {
                Check.due("the list alone: " + v, x.vertex(v, 2), lists[v]);
            }
            x.lay(4, 1);
            int[] behind = {5, 5, 4, 1, 0};
            for (int v = 0; v < 5; v++) {
                Check.due("without neighbour and ban: " + v, x.vertex(v, 2), behind[v]);
            }
            x.lay(1, 0);
            Check.due("two neighbours", x.vertex(0, 2), 4);
            Check.due("the ban alone", x.vertex(3, 2), 0);
            Check.due("the old ban is gone", x.vertex(2, 2), 6);
        });
        s.says("but the ban does not count in a part of one vertex.", () -> {
            String row = "colours 1; vertex; vertex; vertex; edge 0 1; edge 1 2;";
            Check.due("in a part of two", Check.board(row + "lay 0 a;").reason(2, 0), 4);
            Check.due("one alone behind the ban", Check.board(row + "lay 0 a;").valueWithout(1), 1);
            Check.due("vertex 0 alone", Check.board(row + "lay 2 a;").valueWithout(1), 1);
            Check.due("two stay under the ban", Check.board("colours 1; vertex; vertex; vertex; vertex;"
                    + "edge 0 1;edge 1 2;edge 2 3;lay 0a;").valueWithout(1), 0);
            ColourDuel x = Check.board(ROW + "lay 1 a;");
            Check.due("the neighbour is why, not the ban", x.reason(0, 0), 3);
            Check.due("though it is the ban", x.part(0, 2), 0);
        });
    }

    private static void turns(Sentences s) {
        s.section("2. MOVES");
        s.says("The players 0 and 1 move in turn, player 0 first.", () -> {
            ColourDuel x = Check.board("colours 1 passes 2; vertex; vertex; vertex;");
            Check.due("first", x.count(6), 0);
            x.lay(0, 0);
            Check.due("second", x.count(6), 1);
            x.pass();
            Check.due("a pass ends a turn as well", x.count(6), 0);
            x.pass();
            x.lay(2, 0);
            x.lay(1, 0);
            for (int move = 0; move < 5; move++) {
                Check.due("who made move " + move, x.move(move, 0), move % 2);
            }
        });
        s.says("In a move, the player whose turn it is either lays a colour that can be laid on a"
                + " free vertex: the vertex has this colour then", () -> {
            ColourDuel x = Check.board(ROW);
            x.lay(2, 1);
            Check.due("its colour", x.vertex(2, 0), 1);
            Check.due("the others have none", x.vertex(0, 0) + x.vertex(1, 0), -2);
            Check.throwsState("it is not free any more", () -> x.lay(2, 0));
            Check.throwsState("no colour that cannot be laid", () -> x.lay(1, 1));
        });
        s.says("and all parts that come from its part have this colour as their ban"
                + " (the other parts stay as they are)", () -> {
            ColourDuel x = Check.board(ARMS);
            x.lay(0, 1);
            Check.due("three parts", bansOf(x), List.of(1, 1, 1, -1));
            x.lay(7, 0);
            Check.due("the other part", bansOf(x), List.of(1, 1, 1, 0));
            x.lay(3, 0);
            Check.due("a new ban in place of the old", bansOf(x), List.of(1, 0, 1, 0));
            x.lay(6, 0);
            Check.due("a part that gets less", bansOf(x), List.of(1, 0, 0, 0));
            x.lay(4, 1);
            Check.due("the last of a part bans nothing", bansOf(x), List.of(1, 0, 0));
        });
        s.says("or the player passes, if a pass is left: the number of passes is 1 less then.", () -> {
            ColourDuel x = Check.board("colours 2 passes 2; vertex; vertex; vertex; edge 0 1; edge 1 2; lay 0 b;");
            Check.due("1 less", x.pass(), 1);
            Check.due("the ban stays", x.part(0, 2), 1);
            Check.due("0", x.pass(), 0);
            Check.due("0 are left", x.count(3), 0);
            Check.throwsState("none is left", () -> x.pass());
            Check.due("and 0 stay", x.count(3), 0);
        });
    }

    private static List<Integer> bansOf(ColourDuel x) {
        List<Integer> bans = new java.util.ArrayList<>();
        for (int p = 0; p < x.count(5); p++) {
            bans.add(x.part(p, 2));
        }
        return bans;
    }

    private static void ends(Sentences s) {
        String stuck = "; vertex; vertex; edge 0 1; lay 1 a;";
        s.says("The game is over if no colour can be laid and no pass is left", () -> {
            Check.due("a lay, no pass", Check.board(ROW).count(8), 0);
            Check.due("no lay, a pass", Check.board("colours 1 passes 1" + stuck).count(8), 0);
            Check.due("a lay and a pass", Check.board("colours 1 passes 1; vertex;").count(8), 0);
            Check.due("neither", Check.board("colours 1" + stuck).count(8), 1);
            Check.due("no free vertex", Check.board("colours 1; vertex; lay 0 a;").count(8), 1);
            Check.due("no free vertex, a pass", Check.board("colours 1 passes 1; vertex; lay 0 a;").count(8), 0);
            Check.due("the last colour on the last vertex alone",
                    Check.board("colours 3; vertex a; vertex c; edge 0 1; lay 0 a;").count(8), 0);
        });
        s.says("the player whose turn it is has lost then.", () -> {
            Check.due("player 1 has lost", Check.board("colours 1" + stuck).count(9), 0);
            ColourDuel x = Check.board("colours 1 passes 1" + stuck);
            Check.due("not yet", x.count(9), ColourDuel.NONE);
            x.pass();
            Check.due("player 0 has lost", x.count(9), 1);
            Check.due("it is player 0's turn", x.count(6), 0);
        });
    }

    private static void reasons(Sentences s) {
        // the row of 0 to 4: c on 1 lies beside 0 and 2, and bans c in 2-3-4
        String row = "colours 3; vertex ab; vertex bc; vertex; vertex; vertex ab;"
                + " edge 0 1; edge 1 2; edge 2 3; edge 3 4; lay 1 c;";
        s.says("The reason why a colour cannot be laid on a vertex is the first of these that applies", () -> {
            ColourDuel x = Check.board(row);
            Check.due("1 and 2", x.reason(1, 0), 1);
            Check.due("2 and 3", x.reason(0, 2), 2);
            Check.due("2 and 4", x.reason(4, 2), 2);
            Check.due("3 and 4", x.reason(2, 2), 3);
            x.lay(2, 0);
            Check.due("1 and 3", x.reason(1, 0), 1);
            Check.due("2 and 3 and the ban of one vertex", x.reason(0, 2), 2);
        });
        s.says("1 the vertex is not free", () -> {
            ColourDuel x = Check.board(row);
            for (int c = 0; c < 3; c++) {
                Check.due("the colour " + c, x.reason(1, c), 1);
            }
            Check.due("free", x.reason(0, 0), 0);
        });
        s.says("2 the colour is not in its list", () -> {
            ColourDuel x = Check.board("colours 3; vertex a; vertex bc;");
            Check.due("a of a", x.reason(0, 0), 0);
            Check.due("b of a", x.reason(0, 1), 2);
            Check.due("c of a", x.reason(0, 2), 2);
            Check.due("a of bc", x.reason(1, 0), 2);
            Check.due("c of bc", x.reason(1, 2), 0);
        });
        s.says("3 a neighbour has this colour", () -> {
            ColourDuel x = Check.board("colours 3; vertex; vertex; vertex; edge 0 1; edge 2 0; lay 1 a; lay 2 c;");
            Check.due("one neighbour", x.reason(0, 0), 3);
            Check.due("the other one", x.reason(0, 2), 3);
            Check.due("neither", x.reason(0, 1), 0);
        });
        s.says("4 it is the ban of its part, which counts.", () -> {
            ColourDuel x = Check.board(row);
            Check.due("in the middle of three", x.reason(3, 2), 4);
            Check.due("another colour", x.reason(3, 1), 0);
            x.lay(4, 1);
            Check.due("in a part of two", x.reason(2, 1), 4);
            Check.due("in a part of two with vertex 0", Check.board(
                    "colours 1; vertex; vertex; vertex; edge 1 0; edge 0 2; lay 2 a;").reason(1, 0), 4);
            Check.due("the old ban", x.reason(3, 2), 0);
            x.lay(2, 0);
            Check.due("in a part of one it does not count", x.reason(3, 0), 3);
        });
    }

    private static void values(Sentences s) {
        s.section("3. VALUES");
        s.says("The value of a position is the least number from 0 on that is not the value of any"
                + " position that can be reached from it by one move", () -> {
            for (String text : SMALL) {
                ColourDuel x = Check.board(text);
                Check.due("value of " + text, x.value(), Probe.played(x, Probe.allVertices(x), true).get(0));
            }
            // moves to 1 alone: 0 is not among them, so it is 0; moves to 0 and 1: 2
            Check.due("1 alone can be reached", Check.board(ROW + "lay 1 a;").value(), 0);
            Check.due("0 and 1", Check.board(ROW + "lay 0 a;").value(), 2);
        });
        s.says("so it is 0 if nothing can be done.", () -> {
            Check.due("no free vertex", Check.board("colours 3; vertex; lay 0 b;").value(), 0);
            ColourDuel stuck = Check.board("colours 1; vertex; vertex; edge 0 1; lay 1 a;");
            Check.due("no colour for the free vertex", stuck.value(), 0);
            Check.due("its part", stuck.part(0, 5), 0);
            ColourDuel banned = Check.board("colours 1; vertex;vertex;vertex; edge 0 1;edge 1 2; lay 0a;");
            Check.due("under the ban", banned.value(), 0);
        });
        s.says("The value of a part is that of the position in which there is this part alone"
                + " (with the colours that its neighbours have, its ban, and no passes)", () -> {
            for (String text : SMALL) {
                ColourDuel x = Check.board(text);
                for (int p = 0; p < x.count(5); p++) {
                    Check.due("part " + p + " of " + text, x.part(p, 5),
                            Probe.played(x, Probe.verticesOfPart(x, p), false).get(0));
                }
            }
            String pair = "colours 2 passes 5; vertex; vertex a; edge 0 1; ";
            Check.due("a neighbour with its colour", Check.board(pair + "lay 0 a;").part(0, 5), 0);
            Check.due("a neighbour with another", Check.board(pair + "lay 0 b;").part(0, 5), 1);
            String row = "colours 1 passes 9; vertex; vertex; vertex; edge 0 1; edge 1 2;";
            Check.due("without a ban", Check.board(row).part(0, 5), 1);
            Check.due("under the ban", Check.board(row + "lay 0 a;").part(0, 5), 0);
        });
        s.says("the value of the passes is that of the position in which there are these passes alone.", () -> {
            ColourDuel x = Check.board(ROW + "lay 0 a;");
            for (int passes = 0; passes <= 9; passes++) {
                x.setPasses(passes);
                Check.due(passes + " passes", x.count(12), passes % 2);
            }
        });
    }

    private static void valuesTogether(Sentences s) {
        s.says("The value of a board is the exclusive or (the sum of binary numbers without carries)"
                + " of the values of all parts and of the passes.", () -> {
            for (String text : SMALL) {
                ColourDuel x = Check.board(text);
                int together = x.count(12);
                for (int p = 0; p < x.count(5); p++) {
                    together ^= x.part(p, 5);
                }
                Check.due("value of " + text, x.value(), together);
            }
            String points = "colours 1 passes 1; vertex; vertex; vertex;";
            Check.due("1, 1, 1 and 1", Check.board(points).value(), 0);
            Check.due("1, 1 and 1", Check.board(points + "pass;").value(), 1);
            String rowAndPoint = "colours 2 passes 1; vertex; vertex; vertex; vertex; edge 0 1; edge 1 2; lay 0 a;";
            Check.due("2, 1 and 1", Check.board(rowAndPoint).value(), 2);
            Check.due("2 and 1", Check.board(rowAndPoint + "pass;").value(), 3);
        });
        s.says("A move wins if it leads to a board with the value 0.", () -> {
            for (String text : SMALL) {
                ColourDuel x = Check.board(text);
                Check.due("moves that win: " + text, x.winningMoves(), movesToZero(x));
            }
            Check.due("to the value 0", Check.board("colours 1 passes 1; vertex; vertex;").winningColours(0), 1);
            Check.due("to the value 1", Check.board("colours 1; vertex; vertex;").winningColours(0), 0);
        });
        s.says("(Who moves on a board with another value than 0 can win.)", () -> {
            for (String text : SMALL) {
                ColourDuel x = Check.board(text);
                boolean can = x.value() != 0;
                int turn = x.count(6);
                Check.due("there is a winning move: " + text, x.winningMoves() > 0, can);
                x.playOut(20);
                Check.due("who wins " + text, x.count(9), can ? turn : 1 - turn);
            }
        });
    }

    private static int movesToZero(ColourDuel x) {
        int moves = 0;
        for (int v = 0; v < x.count(0); v++) {
            for (int c = 0; c < x.count(2); c++) {
                if (x.reason(v, c) == 0) {
                    x.lay(v, c);
                    moves += x.value() == 0 ? 1 : 0;
                    x.undo();
                }
            }
        }
        if (x.count(3) > 0) {
            x.pass();
            moves += x.value() == 0 ? 1 : 0;
            x.undo();
        }
        return moves;
    }

    private static void games(Sentences s) {
        s.says("The longest game of a part is the greatest number of moves that can be made in it,"
                + " one after the other", () -> eachPart(6, 1));
        s.says("the shortest game is the least number of moves behind which nothing can be done in it.",
                () -> eachPart(7, 2));
        s.says("Those of a board are the sums of those of its parts and of the number of its passes.", () -> {
            for (String text : SMALL) {
                ColourDuel x = Check.board(text);
                List<Integer> played = Probe.played(x, Probe.allVertices(x), true);
                Check.due("longest of " + text, x.longest(), played.get(1));
                Check.due("shortest of " + text, x.shortest(), played.get(2));
            }
            ColourDuel x = Check.board("colours 1 passes 9;" + NINE);
            Check.due("the longest there can be", x.longest(), 18);
            Check.due("all games are as long", x.shortest(), 18);
        });
    }

    private static void eachPart(int what, int played) {
        for (String text : SMALL) {
            ColourDuel x = Check.board(text);
            for (int p = 0; p < x.count(5); p++) {
                Check.due("part " + p + " of " + text, x.part(p, what),
                        Probe.played(x, Probe.verticesOfPart(x, p), false).get(played));
            }
        }
        ColourDuel stuck = Check.board("colours 1 passes 2; vertex; vertex; edge 0 1; lay 1 a;");
        Check.due("nothing can be done", stuck.part(0, what), 0);
        // a on the middle ends it, b on the middle leaves both ends
        ColourDuel fork = Check.board("colours 2; vertex a; vertex; vertex a; edge 0 1; edge 1 2;");
        Check.due("a fork", fork.part(0, what), what == 6 ? 3 : 1);
        ColourDuel points = Check.board("colours 3; vertex; vertex;");
        Check.due("one vertex", points.part(1, what), 1);
    }

    private static void notPromised(Sentences s) {
        s.section("Not promised");
        s.namesNoBound("How the state is held inside the object is free, as are the speed of each"
                + " call, the text of toString and the behaviour of equals and hashCode. Use of one"
                + " object from several threads at once is not promised to be safe. Nothing is"
                + " promised beyond the answers and state changes described above, and nothing about"
                + " an object after its 512th call.");
    }
}
