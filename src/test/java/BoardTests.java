/** Promises 1, 2, 5, 6, 7 and 8: a new object, the buffer, and what is told of the board. */
public final class BoardTests {
    /** 0-1-2 in a row, 3 alone, 4-5 a pair; 4 takes b alone. */
    private static final String THREE_PARTS = "colours 2 passes 3; vertex; vertex; vertex; vertex a;"
            + " vertex b; vertex; edge 0 1; edge 2 1; edge 4 5;";

    public static void main(String[] args) {
        newObject();
        appending();
        counting();
        countingWhenOver();
        vertices();
        reasons();
        bansByPart();
        parts();
        Check.end("BoardTests");
    }

    private static void counts(String name, ColourDuel x, int... wanted) {
        for (int what = 0; what < wanted.length; what++) {
            Check.due(name + ": count(" + what + ")", x.count(what), wanted[what]);
        }
    }

    private static void vertexIs(String name, ColourDuel x, int vertex, int... wanted) {
        for (int what = 0; what < wanted.length; what++) {
            Check.due(name + ": vertex(" + vertex + ", " + what + ")",
                    x.vertex(vertex, what), wanted[what]);
        }
    }

    private static void partIs(String name, ColourDuel x, int part, int... wanted) {
        for (int what = 0; what < wanted.length; what++) {
            Check.due(name + ": part(" + part + ", " + what + ")",
                    x.part(part, what), wanted[what]);
        }
    }

    private static void newObject() {
        ColourDuel x = new ColourDuel();
        counts("new", x, 1, 0, 1, 0, 1, 1, 0, 0, 0, -1, 1, 0, 0);
        vertexIs("new", x, 0, -1, 1, 1, 0, 0, 0);
        partIs("new", x, 0, 1, 0, -1, 0, 1, 1, 1, 1);
        Check.due("new: errorPosition", x.errorPosition(), ColourDuel.NONE);
        Check.throwsIndex("new: writtenByte", () -> x.writtenByte(0));
        Check.throwsState("new: undo", () -> x.undo());
        Check.throwsState("new: restore(0)", () -> x.restore(0));
        Check.throwsState("new: restore(1)", () -> x.restore(1));
        Check.throwsIndex("new: no move", () -> x.move(0, 0));
        Check.throwsArgument("new: the buffer is empty", () -> x.load(1));
        Check.due("new: load(0)", x.load(0), ColourDuel.SYNTAX_ERROR);
        Check.due("new: error of load(0)", x.errorPosition(), 0);
        Check.due("new: written", Check.written(x), "./0/0");
    }

    private static void appending() {
        ColourDuel x = new ColourDuel();
        String text = "colours 1; vertex; ";
        Check.due("append", x.append(0x636f6c6f, 0x75727320, 0x313b2076, 0x65727465, 0x783b2020), 20);
        Check.due("its bytes", x.load(text.length()), 1);
        for (int block = 1; block <= 25; block++) {
            Check.due("append no. " + block, Check.append(x, " "), 20 * block);
        }
        Check.throwsState("append over 500", () -> x.append(0, 0, 0, 0, 0));
        Check.due("the buffer stays full", x.load(500), ColourDuel.SYNTAX_ERROR);
        Check.due("all of it spaces", x.errorPosition(), 500);
        x.append(0x20202020, 0x20202020, 0x20202020, 0x20202020, 0x202020ff);
        Check.due("a byte above 127", x.load(20), ColourDuel.SYNTAX_ERROR);
        Check.due("the last one", x.errorPosition(), 19);
        x.append(0x80000000, 0, 0, 0, 0);
        Check.due("the first byte is the highest", x.load(20), ColourDuel.SYNTAX_ERROR);
        Check.due("at once", x.errorPosition(), 0);
        Check.due("the buffer is empty then", Check.append(x, " "), 20);
    }

    private static void counting() {
        ColourDuel x = Check.board(THREE_PARTS);
        counts("three parts", x, 6, 3, 2, 3, 6, 3, 0, 0, 0, -1, 10, 0, 1);
        x.lay(5, 1);
        counts("4 is stuck", x, 6, 3, 2, 3, 5, 3, 1, 1, 0, -1, 7, 1, 1);
        x.lay(1, 0);
        counts("0 and 2 apart", x, 6, 3, 2, 3, 4, 4, 0, 2, 0, -1, 3, 1, 1);
        x.pass();
        counts("behind a pass", x, 6, 3, 2, 2, 4, 4, 1, 3, 0, -1, 3, 1, 0);
        Check.throwsArgument("count(-1)", () -> x.count(-1));
        Check.throwsArgument("count(13)", () -> x.count(13));
        Check.throwsArgument("count of the greatest int", () -> x.count(Integer.MAX_VALUE));
    }

    private static void countingWhenOver() {
        ColourDuel x = Check.board("colours 1 passes 1; vertex; vertex; edge 0 1; lay 0 a;");
        counts("a pass is left", x, 2, 1, 1, 1, 1, 1, 1, 1, 0, -1, 0, 1, 1);
        x.pass();
        counts("over, player 0 has lost", x, 2, 1, 1, 0, 1, 1, 0, 2, 1, 1, 0, 1, 0);
        x.setPasses(1);
        Check.due("passes open it again", x.count(8), 0);
        Check.due("and nobody has won", x.count(9), ColourDuel.NONE);
        ColourDuel first = Check.board("colours 1; vertex; vertex; edge 0 1; lay 1 a;");
        Check.due("the first vertex is stuck", first.count(11), 1);
        ColourDuel full = Check.board("colours 1; vertex; vertex; vertex; lay 2a; lay 0a; lay 1a;");
        counts("full board", full, 3, 0, 1, 0, 0, 0, 1, 3, 1, 0, 0, 0, 0);
    }

    private static void vertices() {
        ColourDuel x = Check.board(THREE_PARTS);
        vertexIs("row", x, 0, -1, 3, 3, 1, 0, 1);
        vertexIs("row", x, 1, -1, 3, 3, 2, 0, 2);
        vertexIs("alone", x, 3, -1, 1, 1, 0, 1, 0);
        vertexIs("pair", x, 4, -1, 2, 2, 1, 2, 1);
        x.lay(0, 1);
        vertexIs("laid", x, 0, 1, 3, 0, 1, -1, 1);
        vertexIs("behind it", x, 1, -1, 3, 1, 2, 0, 1);
        vertexIs("the ban counts", x, 2, -1, 3, 1, 1, 0, 1);
        x.lay(2, 0);
        vertexIs("stuck between", x, 1, -1, 3, 0, 2, 0, 0);
        vertexIs("laid beside a free one", x, 2, 0, 3, 0, 1, -1, 1);
        Check.throwsIndex("vertex -1", () -> x.vertex(-1, 0));
        Check.throwsIndex("vertex 6", () -> x.vertex(6, 0));
        Check.throwsIndex("vertex 6 and what 9", () -> x.vertex(6, 9));
        Check.throwsArgument("what -1", () -> x.vertex(0, -1));
        Check.throwsArgument("what 6", () -> x.vertex(5, 6));
        vertexIs("three colours", Check.board("colours 3; vertex cb;"), 0, -1, 6, 6, 0, 0, 0);
    }

    private static void reasons() {
        ColourDuel x = Check.board("colours 3; vertex ab; vertex; vertex; vertex; vertex;"
                + " edge 0 1; edge 1 2; edge 2 3; edge 3 4;");
        Check.due("free to lay", x.reason(0, 0), 0);
        Check.due("not in the list", x.reason(0, 2), 2);
        x.lay(1, 2);
        Check.due("not free", x.reason(1, 0), 1);
        Check.due("not free and the same colour", x.reason(1, 2), 1);
        Check.due("the list before the neighbour", x.reason(0, 2), 2);
        Check.due("the neighbour before the ban", x.reason(2, 2), 3);
        Check.due("the ban", x.reason(3, 2), 4);
        Check.due("the ban at the end", x.reason(4, 2), 4);
        Check.due("another colour", x.reason(4, 0), 0);
        x.lay(3, 0);
        Check.due("the ban does not count alone", x.reason(4, 2), 0);
        Check.due("the neighbour counts alone", x.reason(4, 0), 3);
        Check.due("a new ban takes the old one's place", x.reason(2, 1), 0);
        Check.throwsIndex("vertex -1", () -> x.reason(-1, 0));
        Check.throwsIndex("vertex 5", () -> x.reason(5, 0));
        Check.throwsIndex("colour -1", () -> x.reason(0, -1));
        Check.throwsIndex("colour 3", () -> x.reason(0, 3));
        ColourDuel one = Check.board("colours 1; vertex;");
        Check.throwsIndex("colour 1 of one", () -> one.reason(0, 1));
    }

    private static void bansByPart() {
        ColourDuel x = Check.board("colours 2; vertex; vertex; vertex; vertex; vertex;"
                + " edge 0 1; edge 1 2; edge 3 4;");
        x.lay(0, 0);
        Check.due("the part's ban", x.part(0, 2), 0);
        Check.due("the other part has none", x.part(1, 2), ColourDuel.NONE);
        Check.due("nor a reason", x.reason(3, 0), 0);
        x.lay(3, 1);
        Check.due("its own ban stays", x.part(0, 2), 0);
        Check.due("the ban of a single vertex", x.part(1, 2), 1);
        Check.due("and still is refused", x.reason(2, 0), 4);
    }

    private static void parts() {
        ColourDuel x = Check.board(THREE_PARTS);
        partIs("row", x, 0, 3, 0, -1, 2, 6, 1, 3, 2);
        partIs("alone", x, 1, 1, 3, -1, 0, 1, 1, 1, 1);
        partIs("pair", x, 2, 2, 4, -1, 1, 3, 2, 2, 1);
        x.lay(1, 1);
        partIs("least vertex first", x, 0, 1, 0, 1, 0, 1, 1, 1, 1);
        partIs("then the next one", x, 1, 1, 2, 1, 0, 1, 1, 1, 1);
        Check.due("four parts", x.count(5), 4);
        Check.throwsIndex("part -1", () -> x.part(-1, 0));
        Check.throwsIndex("part 4", () -> x.part(4, 0));
        Check.throwsIndex("part 4 and what 9", () -> x.part(4, 9));
        Check.throwsIndex("a part far off", () -> x.part(Integer.MAX_VALUE, 0));
        Check.throwsArgument("what -1", () -> x.part(0, -1));
        Check.throwsArgument("what 8", () -> x.part(3, 8));
        ColourDuel woven = Check.board("colours 1; vertex; vertex; vertex; vertex; vertex; vertex;"
                + " vertex; vertex; vertex; edge 8 0; edge 7 1; edge 1 4; edge 4 7;");
        partIs("parts that are woven", woven, 0, 2, 0, -1, 1, 2, 1, 1, 1);
        partIs("a triangle", woven, 1, 3, 1, -1, 3, 3, 1, 1, 1);
        Check.due("6 is the last part", woven.vertex(6, 4), 5);
        ColourDuel full = Check.board("colours 1; vertex; lay 0 a;");
        Check.throwsIndex("no parts", () -> full.part(0, 0));
    }
}
