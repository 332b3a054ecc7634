import java.util.List;

/** Promises 1 to 8. */
final class SetupSentences {
    private static final String POINT = "colours 1; vertex;";
    /** 0-1-2 in a row, 3 alone, 4-5 a pair; 3 takes a alone, 4 b alone. */
    private static final String THREE_PARTS = "colours 2 passes 3; vertex; vertex; vertex; vertex a;"
            + " vertex b; vertex; edge 0 1; edge 2 1; edge 4 5;";
    private static final String STUCK = "colours 1; vertex; vertex; edge 0 1; lay 1 a;";
    private static final String FULL = "colours 1; vertex; lay 0 a;";

    private SetupSentences() {
    }

    static void all(Sentences s) {
        newObject(s);
        append(s);
        load(s);
        loadRefused(s);
        errorPosition(s);
        count(s);
        countMore(s);
        vertex(s);
        reason(s);
        part(s);
        partMore(s);
    }

    private static void newObject(Sentences s) {
        s.section("Promise 1");
        s.says("Creates a board as by the text \"colours 1; vertex;\",", () -> {
            Check.due("the board", Probe.board(new ColourDuel()), Probe.board(Check.board(POINT)));
            Check.due("nothing of another object", new ColourDuel().count(7), 0);
            Check.throwsState("no change", () -> new ColourDuel().undo());
        });
        s.says("with an empty text buffer", () -> {
            Check.throwsArgument("no byte", () -> new ColourDuel().load(1));
            Check.due("none to read", new ColourDuel().load(0), ColourDuel.SYNTAX_ERROR);
            Check.due("the first bytes", Check.append(new ColourDuel(), " "), 20);
        });
        s.says("and empty slots.", () -> {
            Check.throwsState("slot 0", () -> new ColourDuel().restore(0));
            Check.throwsState("slot 1", () -> new ColourDuel().restore(1));
        });
    }

    /** Twenty spaces, but for one byte in one argument. */
    private static void oneByte(int argument) {
        for (int k = 0; k < 4; k++) {
            for (int letter : new int[] {0, 1, 'a', 127, 128, 254, 255}) {
                int[] w = {0x20202020, 0x20202020, 0x20202020, 0x20202020, 0x20202020};
                w[argument] = 0x20202020 & ~(255 << 24 - 8 * k) | letter << 24 - 8 * k;
                ColourDuel x = new ColourDuel();
                x.append(w[0], w[1], w[2], w[3], w[4]);
                Check.due("the byte " + letter, x.load(20), ColourDuel.SYNTAX_ERROR);
                Check.due("its place", x.errorPosition(), 4 * argument + k);
            }
        }
    }

    private static void append(Sentences s) {
        s.section("Promise 2");
        s.says("Appends 20 bytes to the text buffer: the four bytes of each argument in order,"
                + " the most significant byte first.", () -> {
            ColourDuel x = new ColourDuel();
            x.append(0x636f6c6f, 0x75727320, 0x323b7665, 0x72746578, 0x20613b76);
            x.append(0x65727465, 0x783b6564, 0x67652030, 0x20313b6c, 0x61792030);
            x.append(0x20613b20, 0x20202020, 0x20202020, 0x20202020, 0x20202020);
            Check.due("colours 2;vertex a;vertex;edge 0 1;lay 0 a;", x.load(43), 2);
            Check.due("its board", Check.written(x), "a./1/0");
            x.append(-1, -1, -1, -1, -1);
            Check.due("bytes of 255", x.load(20), ColourDuel.SYNTAX_ERROR);
            Check.due("the first", x.errorPosition(), 0);
            for (int byteAt = 0; byteAt < 500; byteAt += 37) {
                String text = " ".repeat(byteAt) + "%" + " ".repeat(499 - byteAt);
                Check.append(x, text);
                Check.due("a wrong byte", x.load(500), ColourDuel.SYNTAX_ERROR);
                Check.due("where it stands", x.errorPosition(), byteAt);
            }
        });
        s.says("a: first four bytes", () -> oneByte(0));
        s.says("b: next four bytes", () -> oneByte(1));
        s.says("c: next four bytes", () -> oneByte(2));
        s.says("d: next four bytes", () -> oneByte(3));
        s.says("e: last four bytes", () -> oneByte(4));
        s.says("Returns the new length of the buffer.", () -> {
            ColourDuel x = new ColourDuel();
            for (int length = 20; length <= 500; length += 20) {
                Check.due("the length", x.append(0, 0, 0, 0, 0), length);
            }
            x.load(3);
            Check.due("from the start again", x.append(0, 0, 0, 0, 0), 20);
        });
        s.says("Throws IllegalStateException if the length would exceed 500", () -> {
            ColourDuel x = new ColourDuel();
            Check.due("480", Check.append(x, " ".repeat(480)), 480);
            Check.due("500", Check.append(x, "  " + POINT), 500);
            for (int k = 0; k < 3; k++) {
                Check.throwsState("over 500", () -> x.append(-1, -1, -1, -1, -1));
            }
            Check.due("the 500 stay as they are", x.load(500), 1);
            Check.due("room again", x.append(0, 0, 0, 0, 0), 20);
        });
    }

    private static void load(Sentences s) {
        s.section("Promise 3");
        s.says("Reads the first bytes of the text buffer as a board.", () -> {
            ColourDuel x = new ColourDuel();
            Check.append(x, "colours 2; vertex; vertex; lay 0 b; %%%");
            Check.due("not those behind them", x.load(35), 2);
            Check.due("the board", Check.written(x), "b./1/0");
            Check.append(x, "colours 2; vertex; vertex; lay 0 b; %%%");
            Check.due("fewer", x.load(26), 2);
            Check.due("another board", Check.written(x), "../0/0");
        });
        s.says("If the text has no error, it replaces the present one", () -> {
            ColourDuel x = Check.board(THREE_PARTS);
            x.lay(0, 0);
            x.pass();
            Check.load(x, "colours 3; vertex b; vertex; edge 0 1; lay 1 c;");
            Check.due("nothing of the old one", Probe.board(x),
                    Probe.board(Check.board("colours 3; vertex b; vertex; edge 0 1; lay 1 c;")));
            Check.load(x, POINT);
            Check.due("a smaller one", Probe.board(x), Probe.board(new ColourDuel()));
            Check.due("both are changes", x.undo() * 10 + x.undo(), 43);
            // boards that differ in one thing from those before them
            String three = "colours 2; vertex; vertex; vertex; ";
            String[] likeOthers = {three + "edge 0 1; edge 1 2; lay 1 b; lay 0 a;",
                three + "edge 0 1; edge 1 2;", three + "edge 0 1; edge 1 2; edge 2 0;",
                three + "edge 0 1; edge 0 2;", three + "edge 0 1; edge 0 2; lay 3 a;", three,
                three + "edge 0 1; edge 1 2; lay 1 a;", three.replace("vertex;", "vertex a;")};
            for (String text : likeOthers) {
                String before = Probe.board(x);
                boolean good = Check.load(x, text) == 3;
                Check.due("the new one alone: " + text, Probe.board(x),
                        good ? Probe.board(Check.board(text)) : before);
            }
        });
        s.says("in case of an error the present one stays.", () -> {
            String[] texts = {"", "colours 3", "colours 3; vertex b; vertex; edge 0 0;",
                "colours 1;" + Check.vertices(9) + "edge 0 1; edge 1 0;", "colours 1; vertex; pass;",
                "colours 3;" + Check.vertices(8), "colours 3 passes 9; vertex; pass; lay 0 c; %"};
            for (String text : texts) {
                ColourDuel x = ChangeSentences.rich();
                x.load(0);
                Check.due("an error", Check.load(x, text) < 0, true);
                Check.due("the board behind " + text, Probe.board(x), Probe.board(ChangeSentences.rich()));
            }
        });
        s.says("The buffer is empty afterwards in both cases", () -> {
            ColourDuel x = new ColourDuel();
            Check.append(x, POINT + POINT + POINT);
            Check.due("no error", x.load(18), 1);
            Check.throwsArgument("nothing is left", () -> x.load(1));
            Check.due("the first bytes", Check.append(x, "colours 4;" + POINT), 40);
            Check.due("an error", x.load(30), ColourDuel.VALUE_ERROR);
            Check.throwsArgument("nothing is left of it", () -> x.load(1));
            Check.due("nor of the text before", Check.load(x, POINT), 1);
        });
        s.says("the slots stay.", () -> {
            ColourDuel x = Check.board("colours 2; vertex; vertex; lay 1 b;");
            x.save(0);
            x.lay(0, 0);
            x.save(1);
            Check.load(x, "colours 3; vertex; vertex; vertex;");
            Check.load(x, "colours 5;");
            x.restore(0);
            Check.due("slot 0", Check.written(x), ".b/1/0");
            x.restore(1);
            Check.due("slot 1", Check.written(x), "ab/0/0");
            Check.throwsState("empty ones too", () -> Check.board(POINT).restore(0));
        });
    }

    private static void loadRefused(Sentences s) {
        s.says("length: number of bytes, 0 to the length of the buffer", () -> {
            ColourDuel x = new ColourDuel();
            Check.append(x, POINT);
            Check.due("0", x.load(0), ColourDuel.SYNTAX_ERROR);
            Check.due("no byte at all", x.errorPosition(), 0);
            Check.append(x, POINT);
            Check.due("all", x.load(20), 1);
            Check.append(x, " ".repeat(500 - POINT.length()) + POINT);
            Check.due("all 500", x.load(500), 1);
            Check.append(x, " ".repeat(500 - POINT.length()) + POINT);
            Check.due("one less", x.load(499), ColourDuel.SYNTAX_ERROR);
            Check.due("its end", x.errorPosition(), 499);
        });
        s.says("Returns the number of vertices, or the error code.", () -> {
            for (int n = 1; n <= 9; n++) {
                Check.due("vertices", Check.load(new ColourDuel(), "colours 2;" + Check.vertices(n)), n);
            }
            Check.due("SYNTAX_ERROR", Check.load(new ColourDuel(), "colours 1;"), -2);
            Check.due("VALUE_ERROR", Check.load(new ColourDuel(), "colours 4;"), -3);
            Check.due("TWICE", Check.load(new ColourDuel(), "colours 1; vertex; vertex; edge 0 1; edge 0 1;"), -4);
            Check.due("REFUSED", Check.load(new ColourDuel(), "colours 1; vertex; pass;"), -5);
            Check.due("TOO_MANY", Check.load(new ColourDuel(), "colours 3;" + Check.vertices(8)), -6);
        });
        s.says("Throws IllegalArgumentException if length is out of range", () -> {
            Check.numbers("of an empty buffer", 0, 0, length -> new ColourDuel().load(length));
            Check.numbers("of 20 bytes", 0, 20, length -> {
                ColourDuel x = new ColourDuel();
                Check.append(x, POINT);
                return x.load(length);
            });
            Check.numbers("of 500 bytes", 0, 500, length -> {
                ColourDuel x = new ColourDuel();
                Check.append(x, " ".repeat(500));
                return x.load(length);
            });
            ColourDuel x = new ColourDuel();
            Check.append(x, POINT);
            Check.throwsArgument("too long", () -> x.load(21));
            Check.throwsArgument("too short", () -> x.load(-1));
            Check.due("the buffer is kept", x.load(18), 1);
        });
    }

    private static void errorPosition(Sentences s) {
        s.section("Promise 4");
        s.says("Returns the position of the error that the latest call of load found.", () -> {
            ColourDuel x = new ColourDuel();
            Check.load(x, "colours 4;");
            Check.due("the first error", x.errorPosition(), 8);
            Check.load(x, "%");
            Check.due("position 0", x.errorPosition(), 0);
            Check.load(x, "colours 1;");
            Check.due("the end", x.errorPosition(), 10);
            Check.load(x, " ".repeat(500));
            Check.due("the end of the longest", x.errorPosition(), 500);
            Check.throwsArgument("a call that throws", () -> x.load(1));
            Check.due("finds no error", x.errorPosition(), 500);
            x.playOut(1);
            x.undo();
            Check.due("other calls keep it", x.errorPosition(), 500);
        });
        s.says("Returns the position; NONE if it found no error", () -> {
            ColourDuel x = new ColourDuel();
            Check.load(x, "colours 4;");
            Check.load(x, POINT);
            Check.due("no error behind an error", x.errorPosition(), ColourDuel.NONE);
            Check.due("no error", Check.board(THREE_PARTS).errorPosition(), ColourDuel.NONE);
        });
        s.says("or if there was no call.", () -> {
            ColourDuel x = new ColourDuel();
            Check.due("a new object", x.errorPosition(), ColourDuel.NONE);
            Check.append(x, "%");
            Check.throwsArgument("a call that throws", () -> x.load(21));
            Check.due("is none", x.errorPosition(), ColourDuel.NONE);
        });
    }

    private static void counts(int what, int... wanted) {
        String[] texts = {POINT, "colours 3;" + Check.vertices(7), "colours 2 passes 9;" + Check.vertices(9)
            + "edge 0 8;edge 7 8;lay 8 b;", STUCK, FULL, THREE_PARTS + "lay 5 b; pass;"};
        for (int k = 0; k < texts.length; k++) {
            Check.due("count(" + what + ") of " + texts[k], Check.board(texts[k]).count(what), wanted[k]);
        }
    }

    private static void count(Sentences s) {
        s.section("Promise 5");
        s.namesNoBound("Returns a number of the board.", "Returns the requested number.");
        s.says("what: 0: vertices", () -> counts(0, 1, 7, 9, 2, 1, 6));
        s.says("1: edges", () -> counts(1, 0, 0, 2, 1, 0, 3));
        s.says("2: colours", () -> counts(2, 1, 3, 2, 1, 1, 2));
        s.says("3: passes that are left", () -> counts(3, 0, 0, 9, 0, 0, 2));
        s.says("4: free vertices", () -> counts(4, 1, 7, 8, 1, 0, 5));
        s.says("5: parts", () -> counts(5, 1, 7, 8, 1, 0, 3));
        s.says("6: the player whose turn it is", () -> counts(6, 0, 0, 1, 1, 1, 0));
        s.says("7: moves that were made", () -> {
            counts(7, 0, 0, 1, 1, 1, 2);
            ColourDuel x = Check.board(THREE_PARTS + "lay 5 b; pass;");
            x.setPasses(9);
            Check.due("no move", x.count(7), 2);
            x.undo();
            x.lay(0, 0);
            Check.due("one more", x.count(7), 3);
            x.undo();
            Check.due("undone", x.count(7), 2);
        });
    }

    private static void countMore(Sentences s) {
        s.says("8: 1 if the game is over, otherwise 0", () -> {
            counts(8, 0, 0, 0, 1, 1, 0);
            ColourDuel x = Check.board(STUCK);
            x.setPasses(1);
            Check.due("a pass can be made", x.count(8), 0);
            x.pass();
            Check.due("over again", x.count(8), 1);
        });
        s.says("9: the player who has won (NONE as long as the game is not over)", () -> {
            counts(9, -1, -1, -1, 0, 0, -1);
            ColourDuel x = Check.board(STUCK);
            x.setPasses(1);
            Check.due("not over", x.count(9), ColourDuel.NONE);
            x.pass();
            Check.due("player 1 has made the last move", x.count(9), 1);
        });
        s.says("10: pairs of a free vertex and a colour that can be laid on it", () -> {
            counts(10, 1, 21, 14, 0, 0, 7);
            ColourDuel x = Check.board("colours 2; vertex; vertex; vertex; edge 0 1; edge 1 2; lay 0 a;");
            Check.due("not the ban", x.count(10), 2);
        });
        s.says("11: free vertices on which no colour can be laid", () -> {
            counts(11, 0, 0, 0, 1, 0, 1);
            Check.due("not those with one colour", Check.board("colours 1; vertex;").count(11), 0);
            Check.due("under the ban", Check.board(
                    "colours 1; vertex; vertex; vertex; edge 0 1; edge 1 2; lay 0 a;").count(11), 2);
        });
        s.says("12: the value of the passes", () -> counts(12, 0, 0, 1, 0, 0, 0));
        s.says("Throws IllegalArgumentException for any other what",
                () -> Check.numbers("what", 0, 12, what -> Check.board(THREE_PARTS).count(what)));
    }

    private static void vertexIs(int what, int... wanted) {
        ColourDuel x = Check.board(THREE_PARTS + "lay 0 b; lay 3 a;");
        for (int v = 0; v < 6; v++) {
            Check.due("vertex(" + v + ", " + what + ")", x.vertex(v, what), wanted[v]);
        }
    }

    private static void vertex(Sentences s) {
        s.section("Promise 6");
        s.namesNoBound("Returns a number of a vertex.", "vertex: number of a vertex", "Returns the requested number.");
        s.says("what: 0: its colour (NONE if it is free)", () -> vertexIs(0, 1, -1, -1, 0, -1, -1));
        s.says("1: its list, as a set", () -> vertexIs(1, 3, 3, 3, 1, 2, 3));
        s.says("2: the colours that can be laid on it, as a set (0 if it is not free)",
                () -> vertexIs(2, 0, 1, 1, 0, 2, 3));
        s.says("3: its neighbours", () -> vertexIs(3, 1, 2, 1, 0, 1, 1));
        s.says("4: its part (NONE if it is not free)", () -> vertexIs(4, -1, 0, 0, -1, 1, 1));
        s.says("5: its free neighbours", () -> vertexIs(5, 1, 1, 1, 0, 1, 1));
        s.says("Throws IndexOutOfBoundsException if the vertex does not exist", () -> {
            for (int n = 1; n <= 9; n++) {
                ColourDuel x = Check.board("colours 1;" + Check.vertices(n));
                for (int what = -1; what <= 6; what++) {
                    int asked = what;
                    Check.indices("what " + what + " of vertex", n, v -> x.vertex(v, asked));
                }
            }
        });
        s.says("Throws IllegalArgumentException for any other what", () -> {
            ColourDuel x = Check.board(THREE_PARTS + "lay 0 b;");
            Check.numbers("what of a free vertex", 0, 5, what -> x.vertex(5, what));
            Check.numbers("what of another vertex", 0, 5, what -> x.vertex(0, what));
        });
    }

    private static void reason(Sentences s) {
        s.section("Promise 7");
        s.namesNoBound("Tells why a colour cannot be laid on a vertex.",
                "vertex: number of a vertex", "colour: number of a colour");
        s.says("Returns the reason (section 2); 0 if it can be laid.", () -> {
            ColourDuel x = Check.board("colours 3; vertex; vertex ab; vertex; vertex; edge 0 1; edge 1 2;"
                    + " edge 2 3; lay 0 a;");
            int[][] reasons = {{1, 1, 1}, {3, 0, 2}, {4, 0, 0}, {4, 0, 0}};
            for (int v = 0; v < 4; v++) {
                for (int c = 0; c < 3; c++) {
                    Check.due("reason(" + v + ", " + c + ")", x.reason(v, c), reasons[v][c]);
                    ColourDuel y = Check.board("colours 3; vertex; vertex ab; vertex; vertex; edge 0 1;"
                            + " edge 1 2; edge 2 3; lay 0 a;");
                    int vertex = v;
                    int colour = c;
                    Check.due("so it can be laid", Check.outcome(() -> y.lay(vertex, colour)) instanceof Integer,
                            reasons[v][c] == 0);
                }
            }
            Check.due("over", Check.board(STUCK).reason(0, 0), 3);
            Check.due("full", Check.board(FULL).reason(0, 0), 1);
        });
        s.says("Throws IndexOutOfBoundsException if the vertex or the colour does not exist", () -> {
            for (int colours = 1; colours <= 3; colours++) {
                ColourDuel x = Check.board("colours " + colours + "; vertex; vertex; lay 0 a;");
                Check.indices("vertex", 2, v -> x.reason(v, 0));
                Check.indices("colour of a free vertex", colours, c -> x.reason(1, c));
                Check.indices("colour of another vertex", colours, c -> x.reason(0, c));
            }
        });
    }

    private static void partIs(int what, int... wanted) {
        ColourDuel x = Check.board("colours 2 passes 1;vertex;vertex;vertex b;" + Check.vertices(6)
                + "edge 0 3;edge 3 1;edge 0 1;edge 4 2;edge 5 4;edge 8 7;lay 5 b;");
        for (int p = 0; p < 4; p++) {
            Check.due("part(" + p + ", " + what + ")", x.part(p, what), wanted[p]);
        }
        Check.due("the parts", x.count(5), 4);
    }

    private static void part(Sentences s) {
        // a triangle; 2-4 beside b on 5, where 2 takes b alone; 6 alone; 7-8 a pair
        s.section("Promise 8");
        s.namesNoBound("Returns a number of a part.", "part: number of a part", "Returns the requested number.");
        s.says("what: 0: its vertices", () -> partIs(0, 3, 2, 1, 2));
        s.says("1: its least vertex", () -> partIs(1, 0, 2, 6, 7));
        s.says("2: its ban (NONE without one)", () -> partIs(2, -1, 1, -1, -1));
        s.says("3: its edges", () -> partIs(3, 3, 1, 0, 1));
        s.says("4: pairs of a vertex of it and a colour that can be laid on it", () -> partIs(4, 6, 1, 2, 4));
        s.says("5: its value", () -> partIs(5, 0, 0, 1, 0));
        s.says("6: its longest game", () -> partIs(6, 2, 2, 1, 2));
        s.says("7: its shortest game", () -> partIs(7, 2, 2, 1, 2));
    }

    private static void partMore(Sentences s) {
        s.says("Throws IndexOutOfBoundsException if the part does not exist", () -> {
            List<String> texts = List.of(POINT, THREE_PARTS, "colours 1;" + Check.vertices(9), FULL);
            int[] parts = {1, 3, 9, 0};
            for (int k = 0; k < parts.length; k++) {
                ColourDuel x = Check.board(texts.get(k));
                for (int what = -1; what <= 8; what++) {
                    int asked = what;
                    Check.indices("what " + what + " of part", parts[k], p -> x.part(p, asked));
                }
            }
        });
        s.says("Throws IllegalArgumentException for any other what", () -> {
            ColourDuel x = Check.board(THREE_PARTS);
            Check.numbers("what of the first part", 0, 7, what -> x.part(0, what));
            Check.numbers("what of the last part", 0, 7, what -> x.part(2, what));
        });
    }
}
