/** Promises 25 to 29. */
final class UndoSentences {
    private static final String ROW = "colours 2 passes 5; vertex; vertex; vertex; edge 0 1; edge 1 2;";
    private static final String ALL_LAID = "colours 1 passes 9;" + Check.vertices(9)
            + "lay0a;lay1a;lay2a;lay3a;lay4a;lay5a;lay6a;lay7a;lay8a;";

    private UndoSentences() {
    }

    static void all(Sentences s) {
        writeBoard(s);
        writtenByte(s);
        undo(s);
        save(s);
        saveBounds(s);
        restore(s);
        restoreBounds(s);
    }

    private static void writeBoard(Sentences s) {
        s.section("Promise 25");
        s.says("Writes the board, in place of what was written before", () -> {
            ColourDuel x = Check.board(ROW);
            x.writeBoard();
            x.lay(1, 1);
            Check.due("the old text stays till then", Probe.written(x), ".../0/5");
            x.writeBoard();
            Check.due("in place of it", Probe.written(x), ".b./1/5");
            x.writeBoard();
            Check.due("once more", Probe.written(x), ".b./1/5");
            Check.load(x, "colours 1; vertex;");
            x.writeBoard();
            Check.due("a shorter one", Probe.written(x), "./0/0");
        });
        s.says(": for each vertex a point if it is free, otherwise the letter of its colour", () -> {
            Check.due("all free", Check.written(Check.board("colours 3;" + Check.vertices(7))), "......./0/0");
            Check.due("none free", Check.written(Check.board(ALL_LAID)), "aaaaaaaaa/1/9");
            Check.due("each colour", Check.written(Check.board(
                    "colours 3; vertex; vertex; vertex; vertex; lay 3 a; lay 2 b; lay 0 c;")), "c.ba/1/0");
        });
        s.says("then a slash, the player whose turn it is, a slash and the number of passes that are left.", () -> {
            ColourDuel x = Check.board("colours 1; vertex; lay 0 a;");
            for (int passes = 0; passes <= 9; passes++) {
                x.setPasses(passes);
                Check.due("player 1", Check.written(x), "a/1/" + passes);
            }
            x.pass();
            Check.due("player 0", Check.written(x), "a/0/8");
        });
        s.says("Returns the length of the text.", () -> {
            for (int n = 1; n <= 9; n++) {
                Check.due("the length", Check.board("colours 1;" + Check.vertices(n)).writeBoard(), n + 4);
            }
        });
    }

    private static void writtenByte(Sentences s) {
        s.section("Promise 26");
        s.namesNoBound("Returns the byte.");
        s.says("Returns a byte of the text that was written last", () -> {
            ColourDuel x = Check.board("colours 3 passes 9; vertex; vertex; lay 1 c;");
            x.writeBoard();
            int[] bytes = {46, 99, 47, 49, 47, 57};
            for (int k = 0; k < bytes.length; k++) {
                Check.due("byte " + k, x.writtenByte(k), bytes[k]);
            }
            x.lay(0, 0);
            Check.due("not the board as it is now", x.writtenByte(0), 46);
            x.writeBoard();
            Check.due("written last", x.writtenByte(0), 97);
        });
        s.says("there is none at first.", () -> {
            ColourDuel x = new ColourDuel();
            Check.throwsIndex("none in a new object", () -> x.writtenByte(0));
            Check.load(x, ROW);
            x.lay(0, 0);
            Check.indices("byte, before one is written", 0, k -> x.writtenByte(k));
        });
        s.says("index: 0 for the first byte", () -> {
            ColourDuel x = Check.board("colours 2; vertex; lay 0 b;");
            x.writeBoard();
            Check.due("the first", x.writtenByte(0), 98);
            Check.due("the last", x.writtenByte(4), 48);
        });
        s.says("Throws IndexOutOfBoundsException if there is no such byte", () -> {
            for (int n = 1; n <= 9; n++) {
                ColourDuel x = Check.board("colours 1;" + Check.vertices(n));
                x.writeBoard();
                Check.indices("byte", n + 4, k -> x.writtenByte(k));
            }
            ColourDuel x = Check.board(ALL_LAID);
            x.writeBoard();
            Check.load(x, "colours 1; vertex;");
            Check.indices("byte of the longer text", 13, k -> x.writtenByte(k));
            x.writeBoard();
            Check.indices("byte of the shorter text", 5, k -> x.writtenByte(k));
        });
    }

    private static void undo(Sentences s) {
        s.section("Promise 27");
        s.says("Undoes the latest change that has not been undone.", () -> {
            ColourDuel x = Check.board(ROW);
            x.setPasses(6);
            x.setPasses(7);
            x.setPasses(8);
            x.undo();
            Check.due("the latest", x.count(3), 7);
            x.undo();
            Check.due("the one before it", x.count(3), 6);
            x.setPasses(9);
            x.undo();
            Check.due("a new one", x.count(3), 6);
            x.undo();
            Check.due("then an old one", x.count(3), 5);
            x.undo();
            Check.due("then the load", Check.written(x), "./0/0");
            ColourDuel y = Check.board(ROW);
            Check.due("the row", y.value(), 0);
            Check.load(y, ROW + "edge 0 2;");
            Check.due("the triangle", y.value(), 1);
            y.undo();
            Check.due("the row, not the triangle", y.value(), 0);
        });
        s.says("Returns the number of changes that can still be undone.", () -> {
            for (int changes = 1; changes <= 12; changes++) {
                ColourDuel x = new ColourDuel();
                for (int k = 0; k < changes; k++) {
                    x.setPasses(k % 10);
                }
                Check.due("behind " + changes, x.undo(), Math.min(changes, 8) - 1);
                x.setPasses(9);
                Check.due("one was made again", x.undo(), Math.min(changes, 8) - 1);
            }
        });
        s.says("Throws IllegalStateException if there is no change to undo", () -> {
            ColourDuel x = new ColourDuel();
            Check.throwsState("a new object", () -> x.undo());
            x.lay(0, 0);
            Check.due("one", x.undo(), 0);
            Check.throwsState("it is undone", () -> x.undo());
            Check.throwsState("once more", () -> x.undo());
            Check.load(x, "colours 1;");
            x.save(0);
            x.writeBoard();
            Check.throwsState("these are no changes", () -> x.undo());
            for (int k = 0; k < 10; k++) {
                x.setPasses(k);
            }
            for (int k = 0; k < 8; k++) {
                x.undo();
            }
            Check.throwsState("older ones are gone", () -> x.undo());
            Check.due("and stay made", x.count(3), 1);
        });
    }

    private static void save(Sentences s) {
        s.section("Promise 28");
        s.says("Saves everything that undo can bring back", () -> {
            ColourDuel x = ChangeSentences.rich();
            x.save(0);
            Check.load(x, "colours 1 passes 1; vertex; vertex; vertex; edge 0 2; pass; lay 2 a;");
            x.restore(0);
            Check.due("all of it", Probe.board(x), Probe.board(ChangeSentences.rich()));
        });
        s.says("(but not the changes that can be undone)", () -> {
            ColourDuel x = Check.board(ROW);
            x.lay(0, 0);
            x.save(0);
            x.pass();
            x.pass();
            x.restore(0);
            Check.due("those of now, not those of then", x.undo(), 4);
            Check.due("the latest", Check.written(x), "a../1/3");
            ColourDuel y = Check.board(ROW);
            y.lay(0, 0);
            y.save(1);
            y.undo();
            y.undo();
            Check.due("one lay", y.restore(1), 1);
            Check.due("restore alone can be undone", y.undo(), 0);
        });
        s.says("in a slot, in place of what was there.", () -> {
            ColourDuel x = Check.board(ROW);
            x.save(0);
            x.lay(0, 0);
            x.save(0);
            x.lay(1, 1);
            Check.due("the later one", x.restore(0), 1);
            Check.due("its board", Check.written(x), "a../1/5");
            x.undo();
            Check.due("undo keeps it", x.restore(0), 1);
        });
        s.says("This is no change.", () -> {
            ColourDuel x = Check.board(ROW);
            x.lay(0, 0);
            x.save(0);
            x.save(1);
            Check.due("the lay is undone", x.undo(), 1);
            Check.due("it is", Check.written(x), ".../0/5");
            Check.throwsState("none in a new object", () -> {
                ColourDuel y = new ColourDuel();
                y.save(0);
                return y.undo();
            });
        });
    }

    private static void saveBounds(Sentences s) {
        s.says("slot: 0 or 1", () -> {
            ColourDuel x = Check.board(ROW);
            x.save(0);
            x.lay(1, 1);
            x.save(1);
            x.lay(0, 0);
            x.restore(0);
            Check.due("slot 0", Check.written(x), ".../0/5");
            x.restore(1);
            Check.due("slot 1", Check.written(x), ".b./1/5");
        });
        s.says("Returns the number of moves that were made.", () -> {
            ColourDuel x = Check.board("colours 1 passes 9;" + Check.vertices(9));
            Check.due("none", x.save(0), 0);
            x.playOut(20);
            Check.due("eighteen", x.save(1), 18);
            x.setPasses(9);
            Check.due("no move more", x.save(1), 18);
            Check.due("those of the text", Check.board(ALL_LAID).save(0), 9);
        });
        s.says("Throws IndexOutOfBoundsException if there is no such slot", () -> {
            ColourDuel x = Check.board(ROW);
            Check.indices("slot", 2, slot -> x.save(slot));
            Check.due("no change", x.undo(), 0);
        });
    }

    private static void restore(Sentences s) {
        s.section("Promise 29");
        s.says("Brings back what was saved in a slot, which keeps it.", () -> {
            ColourDuel x = Check.board(ROW + "lay 0 b;");
            x.save(1);
            x.lay(2, 0);
            x.restore(1);
            Check.due("brought back", Probe.board(x), Probe.board(Check.board(ROW + "lay 0 b;")));
            x.lay(1, 0);
            x.pass();
            Check.due("kept, whatever is done then", x.restore(1), 1);
            Check.due("the same once more", Probe.board(x), Probe.board(Check.board(ROW + "lay 0 b;")));
            x.undo();
            x.undo();
            x.restore(1);
            Check.due("behind undo", Probe.board(x), Probe.board(Check.board(ROW + "lay 0 b;")));
            Check.load(x, ROW + "edge 0 2;");
            Check.due("a triangle", x.value(), 1);
            x.restore(1);
            Check.due("behind another board", Probe.board(x), Probe.board(Check.board(ROW + "lay 0 b;")));
            Check.load(x, ROW);
            Check.due("a row", x.value(), 0);
            x.save(0);
            Check.load(x, ROW + "edge 0 2;");
            Check.due("the triangle again", x.value(), 1);
            x.restore(0);
            Check.due("the row, not the triangle", x.value(), 0);
        });
        s.says("This is a change.", () -> {
            ColourDuel x = Check.board(ROW);
            x.save(0);
            Check.due("of nothing too", x.restore(0), 0);
            Check.due("the load is left", x.undo(), 1);
            x.lay(0, 0);
            x.restore(0);
            Check.due("the lay and the load are left", x.undo(), 2);
            Check.due("before restore", Check.written(x), "a../1/5");
            for (int k = 0; k < 9; k++) {
                x.restore(0);
            }
            Check.due("eight at most", x.undo(), 7);
        });
        s.says("slot: 0 or 1", () -> {
            ColourDuel x = Check.board(ROW);
            x.save(0);
            Check.due("slot 0", x.restore(0), 0);
            Check.throwsState("not slot 1", () -> x.restore(1));
            x.lay(0, 0);
            x.save(1);
            Check.due("slot 1", x.restore(1), 1);
            Check.due("slot 0 still", x.restore(0), 0);
        });
    }

    private static void restoreBounds(Sentences s) {
        s.says("Returns the number of moves that were made then.", () -> {
            ColourDuel x = Check.board("colours 1 passes 9;" + Check.vertices(9));
            x.save(0);
            x.playOut(20);
            x.save(1);
            Check.due("none", x.restore(0), 0);
            Check.due("eighteen", x.restore(1), 18);
            Check.due("that many there are", x.count(7), 18);
        });
        s.says("Throws IndexOutOfBoundsException if there is no such slot", () -> {
            ColourDuel x = Check.board(ROW);
            x.save(0);
            x.save(1);
            Check.indices("slot", 2, slot -> x.restore(slot));
            ColourDuel empty = new ColourDuel();
            Check.indices("empty slot", 2, slot -> empty.restore(slot));
        });
        s.says("Throws IllegalStateException if nothing was saved there", () -> {
            ColourDuel x = Check.board(ROW);
            Check.throwsState("slot 0", () -> x.restore(0));
            Check.throwsState("slot 1", () -> x.restore(1));
            x.save(1);
            Check.throwsState("slot 0 still", () -> x.restore(0));
            Check.due("no change", x.undo(), 0);
            Check.throwsState("undo saves nothing", () -> x.restore(0));
            Check.load(x, ROW);
            Check.throwsState("nor does load", () -> x.restore(0));
        });
    }
}
