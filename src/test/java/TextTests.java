/** Promises 3, 4, 25 and 26: reading boards and writing them. */
public final class TextTests {
    public static void main(String[] args) {
        constants();
        lengths();
        goodTexts();
        heads();
        vertices();
        tooMany();
        edges();
        moves();
        ends();
        afterAnError();
        moveOrder();
        startsAnew();
        writing();
        Check.end("TextTests");
    }

    private static void constants() {
        Check.due("NONE", ColourDuel.NONE, -1);
        Check.due("SYNTAX_ERROR", ColourDuel.SYNTAX_ERROR, -2);
        Check.due("VALUE_ERROR", ColourDuel.VALUE_ERROR, -3);
        Check.due("TWICE", ColourDuel.TWICE, -4);
        Check.due("REFUSED", ColourDuel.REFUSED, -5);
        Check.due("TOO_MANY", ColourDuel.TOO_MANY, -6);
    }

    private static void lengths() {
        ColourDuel x = new ColourDuel();
        Check.append(x, "colours 1; vertex;");
        Check.throwsArgument("fewer than none", () -> x.load(-1));
        Check.throwsArgument("more than there are", () -> x.load(21));
        Check.due("nothing changed", x.load(18), 1);
        Check.throwsArgument("the buffer is empty", () -> x.load(1));
        Check.append(x, "colours 1; vertex; vertex; vertex;");
        Check.due("the first bytes alone", x.load(26), 2);
        Check.due("the others are gone", Check.append(x, "colours 1; vertex;"), 20);
        Check.due("with the spaces behind", x.load(20), 1);
        Check.append(x, "colours 1; vertex;");
        Check.due("an empty text", x.load(0), ColourDuel.SYNTAX_ERROR);
        Check.due("its end", x.errorPosition(), 0);
        Check.throwsArgument("load empties the buffer in case of an error", () -> x.load(1));
        Check.due("a wrong length is no call that found something", x.errorPosition(), 0);
    }

    private static void goodTexts() {
        Check.good("colours 1;vertex;", 1, "./0/0");
        Check.good("colours 1 passes 0; vertex;", 1, "./0/0");
        Check.good("   colours   1   ;   vertex   ;   ", 1, "./0/0");
        Check.good("colours2passes9;vertexa;".replace("vertexa", "vertex a"), 1, "./0/9");
        Check.good("colours 02 passes 0009; vertex ba; vertex b; edge 00 01; lay 1b; lay0a; pass;", 2, "ab/1/8");
        Check.good("colours 3; vertex cab; vertex c; vertex; lay 2 c;", 3, "..c/1/0");
        Check.good("colours 1; vertex; pass".replace(" pass", ""), 1, "./0/0");
        Check.good("colours 1 passes 2; vertex; pass; lay 0 a; pass;", 1, "a/1/0");
        Check.good("colours 2; vertex;vertex;vertex;vertex;vertex;vertex;vertex;vertex;vertex; edge 8 0;",
                9, "........./0/0");
        Check.good("colours 3; vertex;vertex;vertex;vertex;vertex;vertex;vertex;", 7, "......./0/0");
        Check.good("colours 00000000000000000000001; vertex;", 1, "./0/0");
    }

    private static void heads() {
        Check.bad(ColourDuel.SYNTAX_ERROR, "^");
        Check.bad(ColourDuel.SYNTAX_ERROR, "    ^");
        Check.bad(ColourDuel.SYNTAX_ERROR, "^colour 1; vertex;");
        Check.bad(ColourDuel.SYNTAX_ERROR, "^coloursa 1; vertex;");
        Check.bad(ColourDuel.SYNTAX_ERROR, "^dolours 1; vertex;");
        Check.bad(ColourDuel.SYNTAX_ERROR, "^Colours 1; vertex;");
        Check.bad(ColourDuel.SYNTAX_ERROR, "^1; vertex;");
        Check.bad(ColourDuel.SYNTAX_ERROR, "colours ^; vertex;");
        Check.bad(ColourDuel.SYNTAX_ERROR, "colours ^a; vertex;");
        Check.bad(ColourDuel.SYNTAX_ERROR, "colours ^-1; vertex;");
        Check.bad(ColourDuel.SYNTAX_ERROR, "colours^");
        Check.bad(ColourDuel.VALUE_ERROR, "colours ^0; vertex;");
        Check.bad(ColourDuel.VALUE_ERROR, "colours ^4; vertex;");
        Check.bad(ColourDuel.VALUE_ERROR, "colours ^4294967297; vertex;");
        Check.bad(ColourDuel.VALUE_ERROR, "colours ^18446744073709551617; vertex;");
        Check.bad(ColourDuel.SYNTAX_ERROR, "colours 1 ^vertex;");
        Check.bad(ColourDuel.SYNTAX_ERROR, "colours 1 ^2; vertex;");
        Check.bad(ColourDuel.SYNTAX_ERROR, "colours 1 passes ^; vertex;");
        Check.bad(ColourDuel.VALUE_ERROR, "colours 1 passes ^10; vertex;");
        Check.bad(ColourDuel.SYNTAX_ERROR, "colours 1 passes 1 ^passes 1; vertex;");
        Check.bad(ColourDuel.SYNTAX_ERROR, "colours 1^.; vertex;");
        Check.bad(ColourDuel.SYNTAX_ERROR, "colours 1;^\tvertex;");
        Check.bad(ColourDuel.SYNTAX_ERROR, "colours 1^");
        Check.bad(ColourDuel.SYNTAX_ERROR, "colours 1 passes 1  ^");
    }

    private static void vertices() {
        Check.bad(ColourDuel.SYNTAX_ERROR, "colours 1; ^");
        Check.bad(ColourDuel.SYNTAX_ERROR, "colours 1; ^edge 0 1;");
        Check.bad(ColourDuel.SYNTAX_ERROR, "colours 1; ^pass;");
        Check.bad(ColourDuel.SYNTAX_ERROR, "colours 1; ^; vertex;");
        Check.bad(ColourDuel.SYNTAX_ERROR, "colours 1; ^vertexa;");
        Check.bad(ColourDuel.SYNTAX_ERROR, "colours 1; vertex^");
        Check.bad(ColourDuel.SYNTAX_ERROR, "colours 1; vertex ^0;");
        Check.bad(ColourDuel.SYNTAX_ERROR, "colours 1; vertex a ^a;");
        Check.bad(ColourDuel.SYNTAX_ERROR, "colours 1; vertex a^A;");
        Check.bad(ColourDuel.VALUE_ERROR, "colours 1; vertex ^b;");
        Check.bad(ColourDuel.VALUE_ERROR, "colours 1; vertex ^vertex;");
        Check.bad(ColourDuel.VALUE_ERROR, "colours 2; vertex ^c;");
        Check.bad(ColourDuel.VALUE_ERROR, "colours 2; vertex ^abc;");
        Check.bad(ColourDuel.VALUE_ERROR, "colours 3; vertex ^abca");
        Check.bad(ColourDuel.VALUE_ERROR, "colours 3; vertex ^d;");
        Check.bad(ColourDuel.VALUE_ERROR, "colours 3; vertex ^z;");
        Check.bad(ColourDuel.SYNTAX_ERROR, "colours 1; vertex; ^;");
        Check.bad(ColourDuel.SYNTAX_ERROR, "colours 1; vertex; ^colours 1;");
        Check.bad(ColourDuel.SYNTAX_ERROR, "colours 1; vertex; ^a;");
        Check.bad(ColourDuel.SYNTAX_ERROR, "colours 1; vertex; ^7");
    }

    private static void tooMany() {
        String seven = "vertex; vertex; vertex; vertex; vertex; vertex; vertex; ";
        Check.bad(ColourDuel.TOO_MANY, "colours 3; " + seven + "^vertex d;");
        Check.bad(ColourDuel.TOO_MANY, "colours 2; vertex; vertex; " + seven + "^vertex;");
        Check.bad(ColourDuel.TOO_MANY, "colours 1; vertex; vertex; " + seven + "^vertex;");
        Check.bad(ColourDuel.SYNTAX_ERROR, "colours 3; " + seven + "^vertexx;");
    }

    private static void edges() {
        String three = "colours 2; vertex; vertex; vertex; ";
        Check.bad(ColourDuel.SYNTAX_ERROR, three + "edge ^;");
        Check.bad(ColourDuel.SYNTAX_ERROR, three + "edge 01^;");
        Check.bad(ColourDuel.SYNTAX_ERROR, three + "edge 0 ^a;");
        Check.bad(ColourDuel.SYNTAX_ERROR, three + "edge 0 1 ^2;");
        Check.bad(ColourDuel.SYNTAX_ERROR, three + "edge 0 1^");
        Check.bad(ColourDuel.SYNTAX_ERROR, three + "edge 0 1; ^vertex;");
        Check.bad(ColourDuel.VALUE_ERROR, three + "edge ^3 3;");
        Check.bad(ColourDuel.VALUE_ERROR, three + "edge ^3 a;");
        Check.bad(ColourDuel.VALUE_ERROR, three + "edge 2 ^3;");
        Check.bad(ColourDuel.VALUE_ERROR, three + "edge 2 ^2;");
        Check.bad(ColourDuel.VALUE_ERROR, three + "edge 2 ^4294967296;");
        Check.bad(ColourDuel.VALUE_ERROR, three + "edge 0 2; edge 0 ^34;");
        Check.bad(ColourDuel.TWICE, three + "edge 0 1; edge 0 ^1;");
        Check.bad(ColourDuel.TWICE, three + "edge 0 1; edge 1 ^0;");
        Check.bad(ColourDuel.TWICE, three + "edge 0 1; edge 1 2; edge 2 0; edge 2 ^01 junk");
    }

    private static void moves() {
        String pair = "colours 2 passes 1; vertex; vertex b; vertex; edge 0 1; edge 2 1; ";
        Check.bad(ColourDuel.SYNTAX_ERROR, pair + "lay ^a 0;");
        Check.bad(ColourDuel.SYNTAX_ERROR, pair + "lay 0 ^1;");
        Check.bad(ColourDuel.SYNTAX_ERROR, pair + "lay 0^;");
        Check.bad(ColourDuel.SYNTAX_ERROR, pair + "lay 0 a^");
        Check.bad(ColourDuel.SYNTAX_ERROR, pair + "lay 0 a ^b;");
        Check.bad(ColourDuel.SYNTAX_ERROR, pair + "lay 0 a; ^edge 0 2;");
        Check.bad(ColourDuel.SYNTAX_ERROR, pair + "pass ^1;");
        Check.bad(ColourDuel.SYNTAX_ERROR, pair + "^pas;");
        Check.bad(ColourDuel.SYNTAX_ERROR, pair + "pass; ^vertex;");
        Check.bad(ColourDuel.VALUE_ERROR, pair + "lay ^3 a;");
        Check.bad(ColourDuel.VALUE_ERROR, pair + "lay 0 ^c;");
        Check.bad(ColourDuel.VALUE_ERROR, pair + "lay 0 ^ab;");
        Check.bad(ColourDuel.VALUE_ERROR, pair + "lay 0 ^aa;");
        Check.bad(ColourDuel.REFUSED, pair + "lay 1 ^a;");
        Check.bad(ColourDuel.REFUSED, pair + "lay 0 a; lay 0 ^b;");
        Check.bad(ColourDuel.REFUSED, pair + "lay 0 b; lay 1 ^b;");
        Check.bad(ColourDuel.REFUSED, pair + "lay 0 a; lay 2 ^a;");
        Check.bad(ColourDuel.REFUSED, pair + "pass; ^pass;");
        Check.bad(ColourDuel.REFUSED, pair + "pass; lay 0 a; ^pass 1");
        Check.bad(ColourDuel.VALUE_ERROR, pair + "lay 0 a; lay 0 ^c;");
        Check.good(pair + "lay 1 b; lay 0 a; pass; lay 2 a;", 3, "aba/0/0");
    }

    private static void ends() {
        Check.bad(ColourDuel.SYNTAX_ERROR, "colours 1; vertex; lay 0 a; ^;");
        Check.bad(ColourDuel.SYNTAX_ERROR, "colours 1; vertex; lay 0 a;   ^\u0000");
        Check.bad(ColourDuel.SYNTAX_ERROR, "colours 1; vertex; ^\u00e1");
        Check.good("colours 1; vertex; lay 0 a;    ", 1, "a/1/0");
    }

    private static void afterAnError() {
        ColourDuel x = Check.board("colours 2 passes 5; vertex; vertex; edge 0 1; lay 0 b;");
        x.save(1);
        Check.due("an error", Check.load(x, "colours 3; vertex; vertex; lay 0 a; lay 1 d;"), -3);
        Check.due("its position", x.errorPosition(), 42);
        Check.due("the board stays", Check.written(x), "b./1/5");
        Check.due("its edges", x.count(1), 1);
        Check.due("its moves", x.move(0, 2), 1);
        Check.due("its value", x.value(), 0);
        x.lay(1, 0);
        Check.due("other calls keep the position", x.errorPosition(), 42);
        Check.due("no error", Check.load(x, "colours 1; vertex;"), 1);
        Check.due("no position", x.errorPosition(), ColourDuel.NONE);
        x.undo();
        Check.due("undo does not bring it back", x.errorPosition(), ColourDuel.NONE);
        Check.due("the slots stay", x.restore(1), 1);
    }

    private static void moveOrder() {
        ColourDuel x = Check.board("colours 2 passes 1; vertex; vertex; lay 1 b; pass; lay 0 b;");
        Check.due("three moves", x.count(7), 3);
        Check.due("the second player's turn", x.count(6), 1);
        Check.due("the game is over", x.count(9), 0);
        Check.due("the pass is used", x.count(3), 0);
        ColourDuel banned = Check.board("colours 2; vertex; vertex; vertex; edge 0 1; edge 1 2; lay 0 a;");
        Check.due("a lay of the text makes a ban", banned.part(0, 2), 0);
    }

    private static void startsAnew() {
        ColourDuel x = Check.board("colours 3 passes 4; vertex a; vertex b; vertex; vertex;"
                + " edge 0 1; edge 2 3; pass; lay 3 c; lay 0 a;");
        Check.due("a smaller board", Check.load(x, "colours 3; vertex; vertex; edge 0 1;"), 2);
        int[] counts = {2, 1, 3, 0, 2, 1, 0, 0, 0, -1, 6, 0, 0};
        for (int what = 0; what < counts.length; what++) {
            Check.due("nothing of the old one: " + what, x.count(what), counts[what]);
        }
        Check.due("nor its bans", x.part(0, 2), ColourDuel.NONE);
        Check.due("nor its lists", x.vertex(0, 1) + x.vertex(1, 1), 14);
        Check.throwsIndex("nor its moves", () -> x.move(0, 0));
        Check.due("an error behind many moves", Check.load(x,
                "colours 3 passes 4; vertex; vertex; vertex; edge 0 1; edge 1 2; lay 0 c; pass; x"), -2);
        Check.due("and nothing of that", Check.load(x,
                "colours 3; vertex; vertex; vertex; edge 1 0; edge 2 1; lay 2 c;"), 3);
        Check.due("one move", x.count(7), 1);
        Check.due("one vertex is not free", Check.written(x), "..c/1/0");
        Check.due("four lays", x.count(10), 4);
    }

    private static void writing() {
        ColourDuel x = Check.board("colours 3 passes 9; vertex; vertex; vertex; vertex; lay 1 c; lay 3 a;");
        Check.due("the length", x.writeBoard(), 8);
        String wanted = ".c.a/0/9";
        for (int k = 0; k < 8; k++) {
            Check.due("byte " + k, x.writtenByte(k), (int) wanted.charAt(k));
        }
        Check.throwsIndex("byte -1", () -> x.writtenByte(-1));
        Check.throwsIndex("byte 8", () -> x.writtenByte(8));
        x.lay(0, 1);
        Check.due("the text stays till the next one", x.writtenByte(0), (int) '.');
        Check.due("the next one", Check.written(x), "bc.a/1/9");
        Check.load(x, "colours 1; vertex;");
        Check.due("load keeps it", x.writtenByte(7), (int) '9');
        Check.due("a shorter one", x.writeBoard(), 5);
        Check.throwsIndex("nothing of the longer one", () -> x.writtenByte(5));
        x.undo();
        Check.due("undo keeps the text", x.writtenByte(2), (int) '0');
        Check.throwsIndex("and its length", () -> x.writtenByte(5));
    }
}
