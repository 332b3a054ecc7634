/** Section 4 of the terms, as far as it tells of texts. */
final class TextSentences {
    private static final int SYNTAX = ColourDuel.SYNTAX_ERROR;
    private static final int VALUE = ColourDuel.VALUE_ERROR;
    private static final int TWICE = ColourDuel.TWICE;
    private static final int REFUSED = ColourDuel.REFUSED;
    private static final int TOO_MANY = ColourDuel.TOO_MANY;
    private static final String THREE = "colours 3 passes 1; vertex; vertex ab; vertex; edge 0 1; edge 1 2; ";

    private TextSentences() {
    }

    static void all(Sentences s) {
        s.section("4. TEXTS AND CHANGES");
        length(s);
        head(s);
        repetitions(s);
        parts(s);
        words(s);
        spaces(s);
        numbers(s);
        order(s);
        syntaxErrors(s);
        valueErrors(s);
        otherErrors(s);
    }

    private static void length(Sentences s) {
        s.says("A board is read from a text of at most 500 bytes:", () -> {
            String board = "colours 1; vertex; lay 0 a;";
            Check.good(" ".repeat(500 - board.length()) + board, 1, "a/1/0");
            Check.good(board + " ".repeat(500 - board.length()), 1, "a/1/0");
            Check.bad(SYNTAX, " ".repeat(499 - board.length()) + board + "^.");
            Check.bad(SYNTAX, " ".repeat(501 - board.length()) + board.replace("a;", "a^"));
            ColourDuel x = new ColourDuel();
            Check.append(x, " ".repeat(500));
            Check.throwsState("no byte more", () -> Check.append(x, " "));
            Check.throwsArgument("none to read", () -> x.load(501));
        });
    }

    private static void head(Sentences s) {
        s.says("text = \"colours\" N", () -> {
            Check.good("colours 1; vertex;", 1, "./0/0");
            Check.bad(SYNTAX, "^");
            Check.bad(SYNTAX, "^; vertex;");
            Check.bad(SYNTAX, "^1; vertex;");
            Check.bad(SYNTAX, "^passes 1; vertex;");
            Check.bad(SYNTAX, "^vertex;");
            Check.bad(SYNTAX, "^edge 0 1;");
            Check.bad(SYNTAX, "^colour 1; vertex;");
            Check.bad(SYNTAX, "^colourss 1; vertex;");
            Check.bad(SYNTAX, "colours ^; vertex;");
            Check.bad(SYNTAX, "colours ^a; vertex;");
            Check.bad(SYNTAX, "colours 1 ^1; vertex;");
            Check.bad(SYNTAX, "colours 1; ^colours 1; vertex;");
        });
        s.says("[ \"passes\" N ]", () -> {
            Check.good("colours 1; vertex;", 1, "./0/0");
            Check.good("colours 1 passes 1; vertex;", 1, "./0/1");
            Check.bad(SYNTAX, "colours 1 ^pass 1; vertex;");
            Check.bad(SYNTAX, "colours 1 ^passess 1; vertex;");
            Check.bad(SYNTAX, "colours 1 passes ^; vertex;");
            Check.bad(SYNTAX, "colours 1 passes ^a; vertex;");
            Check.bad(SYNTAX, "colours 1 passes 1 ^1; vertex;");
            Check.bad(SYNTAX, "colours 1 passes 1 ^passes 1; vertex;");
            Check.bad(SYNTAX, "colours 1; ^passes 1; vertex;");
        });
        s.says("\";\" vertex \";\" { vertex \";\" }", () -> {
            Check.bad(SYNTAX, "colours 1 ^vertex;");
            Check.bad(SYNTAX, "colours 1;^; vertex;");
            Check.bad(SYNTAX, "colours 1;^");
            Check.bad(SYNTAX, "colours 1 passes 1;^");
            Check.bad(SYNTAX, "colours 1; ^edge 0 1;");
            Check.bad(SYNTAX, "colours 1; ^lay 0 a;");
            Check.bad(SYNTAX, "colours 1; vertex^");
            Check.bad(SYNTAX, "colours 1; vertex;^;");
            Check.bad(SYNTAX, "colours 1; vertex a ^vertex;");
            Check.good("colours 1; vertex;", 1, "./0/0");
            Check.good("colours 1; vertex; vertex;", 2, "../0/0");
            Check.good("colours 1;" + Check.vertices(9), 9, "........./0/0");
        });
    }

    private static void repetitions(Sentences s) {
        String two = "colours 2 passes 1; vertex; vertex; ";
        s.says("{ edge \";\" }", () -> {
            Check.good(two, 2, "../0/1");
            Check.good(two + "edge 0 1;", 2, "../0/1");
            Check.bad(SYNTAX, two + "edge 0 1^");
            Check.bad(SYNTAX, two + "edge 0 1 ^edge 0 1;");
            Check.bad(SYNTAX, two + "edge 0 1;^;");
            Check.bad(SYNTAX, two + "edge 0 1; ^vertex;");
            Check.bad(SYNTAX, two + "edge 0 1; ^colours 1;");
        });
        s.says("{ lay \";\" } .", () -> {
            Check.good(two + "lay 0 a;", 2, "a./1/1");
            Check.good(two + "lay 1 a; pass; lay 0 b;", 2, "ba/1/0");
            Check.bad(SYNTAX, two + "lay 0 a^");
            Check.bad(SYNTAX, two + "pass^");
            Check.bad(SYNTAX, two + "lay 0 a ^lay 1 a;");
            Check.bad(SYNTAX, two + "pass ^pass;");
            Check.bad(SYNTAX, two + "lay 0 a;^;");
            Check.bad(SYNTAX, two + "lay 0 a; ^edge 0 1;");
            Check.bad(SYNTAX, two + "pass; ^edge 0 1;");
            Check.bad(SYNTAX, two + "pass; ^vertex;");
            Check.bad(SYNTAX, two + "lay 0 a; ^1");
        });
    }

    private static void parts(Sentences s) {
        s.says("vertex = \"vertex\" [ L ] .", () -> {
            ColourDuel x = Check.board("colours 2; vertex; vertex b;");
            Check.due("without L", x.vertex(0, 1), 3);
            Check.due("with L", x.vertex(1, 1), 2);
            Check.bad(SYNTAX, "colours 2; ^vertexb;");
            Check.bad(SYNTAX, "colours 2; ^vertexes;");
            Check.bad(SYNTAX, "colours 2; ^verte;");
            Check.bad(SYNTAX, "colours 2; ^b;");
            Check.bad(SYNTAX, "colours 2; vertex a ^b;");
            Check.bad(SYNTAX, "colours 2; vertex ^0;");
        });
        s.says("edge = \"edge\" N N .", () -> {
            Check.due("an edge", Check.board(THREE).count(1), 2);
            Check.bad(SYNTAX, THREE + "edge ^;");
            Check.bad(SYNTAX, THREE + "edge 0 ^;");
            Check.bad(SYNTAX, THREE + "edge 0 2 ^1;");
            Check.bad(SYNTAX, THREE + "edge ^a 0;");
            Check.bad(SYNTAX, THREE + "edge 0 ^a;");
            Check.bad(SYNTAX, THREE + "^edges 0 2;");
            Check.bad(SYNTAX, THREE + "^edg 0 2;");
        });
        s.says("lay = \"lay\" N C | \"pass\" .", () -> {
            Check.good(THREE + "lay 1 b; pass;", 3, ".b./0/0");
            Check.good(THREE + "pass; lay 1 b;", 3, ".b./0/0");
            Check.bad(SYNTAX, THREE + "lay ^;");
            Check.bad(SYNTAX, THREE + "lay 1 ^;");
            Check.bad(SYNTAX, THREE + "lay ^b 1;");
            Check.bad(SYNTAX, THREE + "lay 1 ^1;");
            Check.bad(SYNTAX, THREE + "lay 1 b ^a;");
            Check.bad(SYNTAX, THREE + "pass ^1;");
            Check.bad(SYNTAX, THREE + "pass ^b;");
            Check.bad(SYNTAX, THREE + "^layb;");
            Check.bad(SYNTAX, THREE + "^passes;");
            Check.bad(SYNTAX, THREE + "^pas;");
        });
        s.says("Braces mean any number of repetitions", () -> {
            StringBuilder text = new StringBuilder("colours 1 passes 9;" + Check.vertices(9));
            for (int v = 1; v < 9; v++) {
                text.append("edge 0 ").append(v).append(';');
            }
            text.append("pass;".repeat(9));
            Check.good(text + "lay0a;", 9, "a......../0/0");
            Check.good("colours 1 passes 9;vertex;" + "pass;".repeat(9), 1, "./1/0");
            Check.due("all edges", Check.board(text.toString()).count(1), 8);
            Check.due("all moves", Check.board(text.toString()).count(7), 9);
        });
        s.says("brackets an optional part", () -> {
            Check.good("colours 2; vertex;", 1, "./0/0");
            Check.good("colours 2 passes 3; vertex a;", 1, "./0/3");
        });
        s.says("separates alternatives, quoted parts stand for themselves.", () -> {
            misspelt("", "colours", " 1; vertex;");
            misspelt("colours 1 ", "passes", " 1; vertex;");
            misspelt("colours 1; ", "vertex", ";");
            misspelt("colours 1; vertex; ", "vertex", ";");
            misspelt(THREE, "edge", " 0 2;");
            misspelt(THREE, "lay", " 0 a;");
            misspelt(THREE, "pass", ";");
            Check.bad(SYNTAX, "colours 1^: vertex;");
        });
    }

    /** The word with each of its letters changed, left out and doubled. */
    private static void misspelt(String before, String word, String behind) {
        for (int k = 0; k < word.length(); k++) {
            String start = word.substring(0, k);
            String rest = word.substring(k + 1);
            Check.bad(SYNTAX, before + "^" + start + (char) (word.charAt(k) ^ 1) + rest + behind);
            Check.bad(SYNTAX, before + "^" + start + rest + behind);
            Check.bad(SYNTAX, before + "^" + start + word.charAt(k) + word.charAt(k) + rest + behind);
        }
    }

    private static void words(Sentences s) {
        s.says("A word is the longest possible sequence of the letters a to z", () -> {
            Check.bad(SYNTAX, "^colourspasses 1; vertex;");
            Check.bad(VALUE, "colours 1; vertex ^ab;");
            Check.bad(VALUE, "colours 1; vertex ^az;");
            Check.bad(VALUE, "colours 1; vertex ^z;");
            Check.bad(SYNTAX, "colours 1; vertex a^{;");
            Check.bad(SYNTAX, "colours 1; vertex a^`;");
            Check.bad(SYNTAX, "colours 1; vertex a^A;");
            Check.bad(SYNTAX, "colours 1; vertex ^Z;");
            Check.bad(SYNTAX, "^COLOURS 1; vertex;");
            Check.good("colours1passes2;vertex a;pass;lay0a;", 1, "a/0/1");
        });
        s.says("N is the longest possible sequence of digits", () -> {
            Check.bad(VALUE, "colours ^11; vertex;");
            Check.bad(VALUE, "colours 1 passes ^19; vertex;");
            Check.bad(SYNTAX, THREE + "edge 02^;");
            Check.bad(SYNTAX, "colours 1^/; vertex;");
            Check.bad(SYNTAX, "colours 1^:; vertex;");
            Check.bad(SYNTAX, "colours ^+1; vertex;");
            Check.bad(SYNTAX, "colours ^-1; vertex;");
            Check.bad(SYNTAX, "colours 1^.0; vertex;");
            Check.good("colours 0000000000000001 passes 09;vertex;pass;lay00a;", 1, "a/0/8");
        });
        s.says("L is a word that has letters of colours alone (a for colour 0, b for 1, c for 2),"
                + " none of them twice", () -> {
            String[] lists = {"a", "b", "ab", "c", "ac", "bc", "abc", "", "ba", "", "ca", "cb", "cab"};
            for (int k = 0; k < lists.length; k++) {
                if (!lists[k].isEmpty()) {
                    Check.due(lists[k], Check.board("colours 3; vertex " + lists[k] + ";").vertex(0, 1),
                            k < 7 ? k + 1 : new int[] {3, 0, 5, 6, 7}[k - 8]);
                }
            }
            String[] twice = {"aa", "bb", "cc", "aba", "abb", "acc", "abca", "abcabc"};
            for (String list : twice) {
                Check.bad(VALUE, "colours 3; vertex ^" + list + ";");
            }
            Check.bad(VALUE, "colours 1; vertex ^b;");
            Check.bad(VALUE, "colours 2; vertex ^c;");
            Check.bad(VALUE, "colours 2; vertex ^ac;");
            Check.bad(VALUE, "colours 3; vertex ^d;");
            Check.bad(VALUE, "colours 3; vertex ^abcd;");
        });
        s.says("C is a word of one letter of a colour.", () -> {
            Check.good("colours 3; vertex; lay 0 a;", 1, "a/1/0");
            Check.good("colours 3; vertex; lay 0 c;", 1, "c/1/0");
            Check.bad(VALUE, "colours 3; vertex; lay 0 ^d;");
            Check.bad(VALUE, "colours 2; vertex; lay 0 ^c;");
            Check.bad(VALUE, "colours 1; vertex; lay 0 ^b;");
            Check.bad(VALUE, "colours 3; vertex; lay 0 ^ab;");
            Check.bad(VALUE, "colours 3; vertex; lay 0 ^aa;");
            Check.bad(VALUE, "colours 3; vertex; lay 0 ^z;");
        });
    }

    private static void spaces(Sentences s) {
        s.says("Spaces (byte 32) may stand in front of every token", () -> {
            String tokens = "colours|3|passes|1|;|vertex|cb|;|vertex|;|edge|0|1|;|lay|0|c|;|pass|;";
            Check.good(tokens.replace("|", " "), 2, "c./0/0");
            Check.good("     " + tokens.replace("|", "     "), 2, "c./0/0");
            Check.good("colours3passes1;vertex cb;vertex;edge0 1;lay0c;pass;", 2, "c./0/0");
            Check.bad(SYNTAX, "^col ours 1; vertex;");
            Check.bad(SYNTAX, "colours 3; vertex a ^b;");
            Check.bad(SYNTAX, "colours 0 ^1; vertex;".replace("colours 0", "colours 1"));
            for (int other : new int[] {0, 9, 10, 11, 12, 13, 31, 33, 127, 160, 255}) {
                Check.bad(SYNTAX, "^" + (char) other + "colours 1; vertex;");
                Check.bad(SYNTAX, "colours^" + (char) other + "1; vertex;");
                Check.bad(SYNTAX, "colours 1;^" + (char) other + "vertex;");
            }
        });
        s.says("and at the end of the text.", () -> {
            Check.good("colours 1; vertex; ", 1, "./0/0");
            Check.good("colours 1; vertex; lay 0 a;      ", 1, "a/1/0");
            for (int other : new int[] {0, 9, 10, 13, 31, 33, 127, 128, 160, 254, 255}) {
                Check.bad(SYNTAX, "colours 1; vertex;^" + (char) other);
                Check.bad(SYNTAX, "colours 1; vertex;  ^" + (char) other + " ");
            }
        });
    }

    private static void numbers(Sentences s) {
        s.says("The numbers are: the colours (1 to 3)", () -> {
            Check.bad(VALUE, "colours ^0; vertex;");
            for (int colours = 1; colours <= 3; colours++) {
                Check.due("colours", Check.board("colours " + colours + "; vertex;").count(2), colours);
            }
            Check.bad(VALUE, "colours ^4; vertex;");
            Check.bad(VALUE, "colours ^257; vertex;");
            Check.bad(VALUE, "colours ^4294967297; vertex;");
            Check.bad(VALUE, "colours ^18446744073709551617; vertex;");
            Check.bad(VALUE, "colours ^1" + "0".repeat(400) + "1; vertex;");
            Check.due("many zeros", Check.board("colours " + "0".repeat(400) + "1; vertex;").count(2), 1);
        });
        s.says("the passes (0 to 9, 0 without them)", () -> {
            for (int passes = 0; passes <= 9; passes++) {
                Check.good("colours 1 passes " + passes + "; vertex;", 1, "./0/" + passes);
            }
            Check.bad(VALUE, "colours 1 passes ^10; vertex;");
            Check.bad(VALUE, "colours 1 passes ^256; vertex;");
            Check.bad(VALUE, "colours 1 passes ^4294967296; vertex;");
            Check.good("colours 1; vertex;", 1, "./0/0");
            ColourDuel x = Check.board("colours 1 passes 9; vertex;");
            Check.due("none are left over from another board", Check.load(x, "colours 1; vertex;"), 1);
            Check.due("0 without them", x.count(3), 0);
        });
        s.says("of an edge two different vertices", () -> {
            ColourDuel x = Check.board("colours 1; vertex; vertex; vertex; edge 0 2; edge 2 1;");
            Check.due("the lowest and the highest", x.count(1), 2);
            String three = "colours 1; vertex; vertex; vertex; ";
            for (String far : new String[] {"3", "8", "9", "31", "32", "33", "64", "256"}) {
                Check.bad(VALUE, three + "edge 2 1; edge 2 0; edge 2 ^" + far + ";");
                Check.bad(VALUE, three + "edge 2 1; edge 2 0; edge ^" + far + " 2;");
            }
            Check.bad(VALUE, three + "edge ^3 0;");
            Check.bad(VALUE, three + "edge 0 ^3;");
            Check.bad(VALUE, three + "edge ^4294967296 1;");
            Check.bad(VALUE, three + "edge 1 ^4294967296;");
            Check.bad(VALUE, three + "edge 0 ^0;");
            Check.bad(VALUE, three + "edge 2 ^02;");
            Check.bad(VALUE, "colours 1; vertex; edge 0 ^1;");
        });
        s.says("of a lay the vertex.", () -> {
            Check.good("colours 1; vertex; vertex; lay 1 a; lay 0 a;", 2, "aa/0/0");
            Check.bad(VALUE, "colours 1; vertex; vertex; lay ^2 a;");
            Check.bad(VALUE, "colours 1; vertex; vertex; lay ^9 a;");
            Check.bad(VALUE, "colours 1; vertex; vertex; lay ^32 a;");
            Check.bad(VALUE, "colours 1; vertex; vertex; lay ^4294967296 a;");
            Check.bad(VALUE, "colours 1;" + Check.vertices(9) + "lay ^9 a;");
            Check.good("colours 1;" + Check.vertices(9) + "lay 8 a;", 9, "........a/1/0");
        });
        s.says("A vertex without L has all colours in its list.", () -> {
            for (int colours = 1; colours <= 3; colours++) {
                ColourDuel x = Check.board("colours " + colours + "; vertex; vertex a; vertex;");
                Check.due("the first of " + colours, x.vertex(0, 1), (1 << colours) - 1);
                Check.due("the last of " + colours, x.vertex(2, 1), (1 << colours) - 1);
            }
        });
        s.says("The lays and passes are moves of the players in turn.", () -> {
            ColourDuel x = Check.board(THREE + "lay 0 c; pass; lay 1 b; lay 2 c;");
            int[][] moves = {{0, 0, 2, 1}, {1, -1, -1, 1}, {0, 1, 1, 1}, {1, 2, 2, 0}};
            for (int k = 0; k < 16; k++) {
                Check.due("move " + k / 4 + ", " + k % 4, x.move(k / 4, k % 4), moves[k / 4][k % 4]);
            }
            Check.due("whose turn it is", x.count(6), 0);
            Check.due("how many there are", x.count(7), 4);
            Check.due("a ban", Check.board(THREE + "lay 0 c;").reason(2, 2), 4);
        });
    }

    private static void order(Sentences s) {
        s.says("Reading stops at the first error.", () -> {
            Check.bad(VALUE, "colours ^9 passes 10; x");
            Check.bad(VALUE, "colours 1 passes ^10; vertex b");
            Check.bad(VALUE, "colours 1; vertex ^b; vertex %");
            Check.bad(VALUE, THREE + "edge ^3 3;");
            Check.bad(VALUE, THREE + "edge ^7 %");
            Check.bad(TWICE, THREE + "edge 0 ^1 2; lay 0 d;");
            Check.bad(TWICE, THREE + "edge 1 ^0%");
            Check.bad(VALUE, THREE + "lay ^3 d;");
            Check.bad(REFUSED, THREE + "lay 1 ^c; pass; pass;");
            Check.bad(REFUSED, THREE + "lay 1 ^c%");
            Check.bad(REFUSED, THREE + "pass; ^pass%");
            Check.bad(TOO_MANY, "colours 3;" + Check.vertices(7) + "^vertex d;");
            Check.bad(TOO_MANY, "colours 1;" + Check.vertices(9) + "^vertex%");
            Check.bad(SYNTAX, "colours 1^%; vertex b;");
        });
        s.says("If several error codes fit the same position, the first one in this list is reported:", () -> {
            // SYNTAX_ERROR before VALUE_ERROR, REFUSED and TOO_MANY
            Check.bad(SYNTAX, "colours 1; ^99;");
            Check.bad(SYNTAX, "colours 1; vertex; ^dd;");
            Check.bad(SYNTAX, THREE + "lay 0 ^99;");
            Check.bad(SYNTAX, THREE + "edge 0 ^dd;");
            Check.bad(SYNTAX, "colours 1; ^pass;");
            Check.bad(SYNTAX, "colours 1; vertex; lay 0 a ^pass;");
            Check.bad(SYNTAX, "colours 1;" + Check.vertices(9) + "edge 0 1; ^vertex;");
            Check.bad(SYNTAX, "colours 3;" + Check.vertices(7) + "lay 0 a; ^vertex;");
            Check.bad(SYNTAX, "colours 1;" + Check.vertices(9) + "^vertices;");
            // VALUE_ERROR before TWICE and REFUSED
            Check.bad(VALUE, THREE + "edge 1 ^1;");
            Check.bad(VALUE, THREE + "lay 0 a; lay 0 ^d;");
            Check.bad(VALUE, THREE + "lay 0 a; lay 0 ^aa;");
            Check.bad(VALUE, THREE + "lay 1 ^cc;");
        });
    }

    private static void syntaxErrors(Sentences s) {
        s.says("SYNTAX_ERROR: a byte or token that is not allowed here (at its first byte)", () -> {
            Check.bad(SYNTAX, "^%");
            Check.bad(SYNTAX, "   ^%");
            Check.bad(SYNTAX, "^\u00ffcolours 1; vertex;");
            Check.bad(SYNTAX, "colours 1; vertex;   ^vertexx;");
            Check.bad(SYNTAX, "colours 1; vertex;   ^1234;");
            Check.bad(SYNTAX, "colours 1; vertex;   ^;");
            Check.bad(SYNTAX, "colours 1; vertex a   ^aaa;");
            Check.bad(SYNTAX, "colours 1; vertex a^,");
            Check.bad(SYNTAX, "colours 1, vertex;".replace(",", "^,"));
        });
        s.says("or an unexpected end of the text (at the length of the text).", () -> {
            String[] starts = {"", "colours", "colours 1", "colours 1 passes", "colours 1 passes 1",
                "colours 1;", "colours 1; vertex", "colours 1; vertex a", "colours 1; vertex; vertex",
                THREE + "edge", THREE + "edge 0", THREE + "edge 0 2", THREE + "lay", THREE + "lay 1",
                THREE + "lay 1 a", THREE + "pass"};
            for (String start : starts) {
                Check.bad(SYNTAX, start + "^");
                Check.bad(SYNTAX, start + "    ^");
            }
            ColourDuel x = new ColourDuel();
            Check.append(x, "colours 1; vertex;");
            Check.due("the length, not the end of the buffer", x.load(17), SYNTAX);
            Check.due("the end", x.errorPosition(), 17);
        });
    }

    private static void valueErrors(Sentences s) {
        s.says("VALUE_ERROR: a number out of its range", () -> {
            Check.bad(VALUE, "colours   ^000; vertex;");
            Check.bad(VALUE, "colours   ^004; vertex;");
            Check.bad(VALUE, "colours 1 passes   ^0010; vertex;");
            Check.bad(VALUE, THREE + "edge   ^003 0;");
            Check.bad(VALUE, THREE + "edge 0   ^003;");
            Check.bad(VALUE, THREE + "lay   ^003 a;");
        });
        s.says("the second vertex of an edge that is the first one", () -> {
            for (int v = 0; v < 3; v++) {
                Check.bad(VALUE, "colours 1; vertex; vertex; vertex; edge " + v + "   ^" + v + ";");
                Check.bad(VALUE, "colours 1; vertex; vertex; vertex; edge 00" + v + " ^0" + v + " junk");
            }
        });
        s.says("or a word that is no L or no C (at its first byte).", () -> {
            Check.bad(VALUE, "colours 3; vertex   ^abca;");
            Check.bad(VALUE, "colours 3; vertex   ^abcd;");
            Check.bad(VALUE, "colours 3; vertex   ^vertex;");
            Check.bad(VALUE, THREE + "lay 0   ^abc;");
            Check.bad(VALUE, THREE + "lay 0   ^pass;");
        });
    }

    private static void otherErrors(Sentences s) {
        s.says("TWICE: the second vertex of an edge that is told already, in either order"
                + " (at its first digit).", () -> {
            Check.bad(TWICE, THREE + "edge 0   ^1;");
            Check.bad(TWICE, THREE + "edge 1   ^0;");
            Check.bad(TWICE, THREE + "edge 1   ^2;");
            Check.bad(TWICE, THREE + "edge 02 ^0001;");
            Check.bad(TWICE, "colours 1;" + Check.vertices(9) + "edge 7 8;edge 8 ^7;");
            Check.due("another edge", Check.board(THREE + "edge 2 0;").count(1), 3);
        });
        s.says("REFUSED: a colour that cannot be laid on the vertex (at its first letter)", () -> {
            Check.bad(REFUSED, THREE + "lay 1 a; lay 1   ^b;");
            Check.bad(REFUSED, THREE + "lay 1   ^c;");
            Check.bad(REFUSED, THREE + "lay 1 a; lay 2   ^a;");
            Check.bad(REFUSED, THREE + "lay 0 c; pass; lay 2   ^c;");
            Check.good(THREE + "lay 0 c; pass; lay 2 a;", 3, "c.a/1/0");
        });
        s.says("or a pass that is not left (at its word).", () -> {
            Check.bad(REFUSED, "colours 1; vertex;   ^pass;");
            Check.bad(REFUSED, "colours 1 passes 0; vertex; ^pass;");
            Check.bad(REFUSED, THREE + "pass;   ^pass;");
            Check.bad(REFUSED, "colours 1 passes 9; vertex;" + "pass;".repeat(9) + "^pass;");
            Check.good("colours 1 passes 9; vertex;" + "pass;".repeat(9), 1, "./1/0");
        });
        s.says("TOO_MANY: a vertex by which the number of colours plus 1, to the power of the number"
                + " of vertices, would be above 20000", () -> {
            Check.good("colours 3;" + Check.vertices(7), 7, "......./0/0");
            Check.bad(TOO_MANY, "colours 3;" + Check.vertices(7) + "  ^vertex;");
            Check.good("colours 2;" + Check.vertices(9), 9, "........./0/0");
        });
        s.says("or a 10th vertex (at its word).", () -> {
            Check.bad(TOO_MANY, "colours 1;" + Check.vertices(9) + "  ^vertex;");
            Check.bad(TOO_MANY, "colours 2;" + Check.vertices(9) + "  ^vertex a;");
        });
    }
}
