/** Promises 27 to 29: undo and the slots. */
public final class UndoTests {
    private static final String ROW = "colours 2 passes 5; vertex; vertex; vertex; edge 0 1; edge 1 2;";

    public static void main(String[] args) {
        everyChange();
        noChanges();
        eightChanges();
        whatComesBack();
        slots();
        slotsApart();
        restoring();
        Check.end("UndoTests");
    }

    private static void everyChange() {
        ColourDuel x = Check.board(ROW);
        x.lay(0, 0);
        x.pass();
        x.setPasses(7);
        x.save(0);
        x.playOut(1);
        x.restore(0);
        String[] boards = {"a../0/7", "", "a../0/7", "a../0/4", "a../1/5", ".../0/5", "./0/0"};
        for (int k = 0; k < 6; k++) {
            if (k != 1) {
                Check.due("board " + k, Check.written(x), boards[k]);
            }
            Check.due("undo " + k, x.undo(), 5 - k);
        }
        Check.due("the new object's board", Check.written(x), boards[6]);
        Check.throwsState("no more", () -> x.undo());
        Check.due("still that board", Check.written(x), boards[6]);
    }

    private static void noChanges() {
        ColourDuel x = Check.board(ROW);
        x.lay(1, 0);
        Check.outcome(() -> x.lay(0, 0));
        Check.outcome(() -> x.lay(9, 9));
        Check.outcome(() -> x.setPasses(10));
        Check.outcome(() -> x.playOut(0));
        Check.outcome(() -> x.restore(0));
        Check.load(x, "colours 1;");
        x.bestMove();
        x.valueIf(0, 1);
        x.valueWithout(0);
        x.writeBoard();
        x.save(1);
        Check.due("two changes alone", x.undo(), 1);
        Check.due("the lay is undone", x.vertex(1, 0), ColourDuel.NONE);
        x.setPasses(0);
        Check.outcome(() -> x.pass());
        Check.due("a pass that failed", x.undo(), 1);
        Check.due("five passes", x.count(3), 5);
    }

    private static void eightChanges() {
        ColourDuel x = new ColourDuel();
        for (int passes = 1; passes <= 9; passes++) {
            x.setPasses(passes);
        }
        for (int k = 7; k >= 0; k--) {
            Check.due("changes that are left", x.undo(), k);
            Check.due("passes", x.count(3), k + 1);
        }
        Check.throwsState("the ninth is too old", () -> x.undo());
        Check.due("its passes stay", x.count(3), 1);
        x.setPasses(5);
        Check.due("a new change", x.undo(), 0);
        for (int round = 0; round < 30; round++) {
            x.setPasses(round % 10);
        }
        for (int k = 7; k >= 3; k--) {
            x.undo();
        }
        Check.due("behind five undone", x.count(3), 4);
        x.setPasses(0);
        x.setPasses(1);
        Check.due("old and new ones", x.undo(), 4);
        x.undo();
        Check.due("the new ones first", x.count(3), 4);
        for (int k = 2; k >= 0; k--) {
            Check.due("then the old ones", x.undo(), k);
        }
        Check.due("the oldest that is kept", x.count(3), 1);
    }

    private static void whatComesBack() {
        ColourDuel x = Check.board(ROW);
        x.lay(0, 1);
        x.pass();
        Check.load(x, "colours 3; vertex a; vertex; vertex; vertex; lay 3 c; lay 0 a;");
        Check.due("the new board", Check.written(x), "a..c/0/0");
        Check.append(x, "colours 1; vertex;");
        x.undo();
        Check.due("vertices", x.count(0), 3);
        Check.due("edges", x.count(1), 2);
        Check.due("colours", x.count(2), 2);
        Check.due("passes", x.count(3), 4);
        Check.due("the list", x.vertex(0, 1), 3);
        Check.due("the ban", x.part(0, 2), 1);
        Check.due("the turn", x.count(6), 0);
        Check.due("the moves", x.count(7), 2);
        Check.due("the last move", x.move(1, 1), ColourDuel.NONE);
        Check.due("the account", x.account(0, 4), 1);
        Check.due("the buffer stays", Check.append(x, " "), 40);
        Check.due("and can be read", x.load(18), 1);
        x.undo();
        x.undo();
        Check.due("before the pass", x.count(7), 1);
        Check.due("its ban", x.reason(2, 1), 4);
        x.undo();
        Check.due("no ban any more", x.part(0, 2), ColourDuel.NONE);
        Check.due("the value", x.value(), 0);
    }

    private static void slots() {
        ColourDuel x = Check.board(ROW);
        Check.throwsIndex("slot -1", () -> x.save(-1));
        Check.throwsIndex("slot 2", () -> x.save(2));
        Check.throwsIndex("restore -1", () -> x.restore(-1));
        Check.throwsIndex("restore 2", () -> x.restore(2));
        Check.throwsState("empty 0", () -> x.restore(0));
        Check.throwsState("empty 1", () -> x.restore(1));
        x.lay(2, 1);
        x.pass();
        Check.due("two moves are saved", x.save(1), 2);
        Check.throwsState("the other slot is empty", () -> x.restore(0));
        x.undo();
        x.undo();
        Check.due("undo keeps the slot", x.restore(1), 2);
        Check.due("what was saved", Check.written(x), "..b/0/4");
        x.undo();
        Check.due("before it", Check.written(x), ".../0/5");
        Check.due("none in place of two", x.save(1), 0);
        x.lay(0, 0);
        Check.due("the new one", x.restore(1), 0);
        Check.due("no moves", x.count(7), 0);
    }

    private static void slotsApart() {
        ColourDuel x = Check.board(ROW);
        x.save(0);
        x.lay(1, 0);
        x.save(1);
        x.playOut(20);
        Check.due("slot 0", x.restore(0), 0);
        Check.due("its board", Check.written(x), ".../0/5");
        x.lay(0, 0);
        Check.due("slot 0 again, which kept it", x.restore(0), 0);
        Check.due("its board again", Check.written(x), ".../0/5");
        Check.due("slot 1", x.restore(1), 1);
        Check.due("its other board", Check.written(x), ".a./1/5");
        Check.due("and its ban", x.part(1, 2), 0);
    }

    private static void restoring() {
        ColourDuel x = Check.board(ROW);
        x.lay(1, 1);
        x.save(0);
        Check.load(x, "colours 1; vertex; vertex;");
        Check.due("two points", x.value(), 0);
        Check.due("the row of the slot", x.restore(0), 1);
        Check.due("three vertices", x.count(0), 3);
        Check.due("the value there", x.value(), 1);
        Check.due("its longest game", x.longest(), 7);
        Check.due("restore is a change", x.undo(), 3);
        Check.due("two vertices", x.count(0), 2);
        Check.due("the changes before it are kept", x.undo(), 2);
        Check.due("the row itself", Check.written(x), ".b./1/5");
    }
}
