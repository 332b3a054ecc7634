import java.util.List;
import java.util.function.Consumer;
import java.util.function.Supplier;

/** What section 4 of the terms tells of changes, and section 5. */
final class ChangeSentences {
    /** Changes of the board that rich makes. */
    private static final List<Consumer<ColourDuel>> CHANGES = List.of(
            x -> x.load(58),
            x -> x.lay(3, 1),
            x -> x.pass(),
            x -> x.playOut(2),
            x -> x.playOut(20),
            x -> x.setPasses(9),
            x -> x.setPasses(x.count(3)),
            x -> x.restore(1));

    /** Changes that a new object can make, one behind the other, as often as one likes. */
    private static final List<Consumer<ColourDuel>> CHANGES_OF_NEW = List.of(
            x -> x.setPasses(9), x -> x.pass(), x -> x.playOut(3), x -> Check.load(x, "colours 1; vertex;"));

    private ChangeSentences() {
    }

    static void all(Sentences s) {
        s.section("4. TEXTS AND CHANGES");
        changes(s);
        undone(s);
        s.section("5. EXCEPTIONS");
        throwing(s);
        firstNamed(s);
        indices(s);
        constants(s);
    }

    /** Something in each corner: slots, bans, moves, passes, changes, a text, an error, a buffer. */
    static ColourDuel rich() {
        ColourDuel x = Check.board("colours 3 passes 3; vertex ab; vertex; vertex bc; vertex; vertex;"
                + " vertex; edge 0 1; edge 1 2; edge 2 3; edge 3 4; edge 4 5; lay 1 c; pass;");
        x.save(1);
        x.lay(5, 0);
        x.setPasses(2);
        x.writeBoard();
        Check.load(x, "colours 1; vertex; lay 0 b;");
        Check.append(x, "colours 3 passes 4; vertex; vertex bc; edge 1 0; lay 0 a; ");
        return x;
    }

    private static ColourDuel behind(Consumer<ColourDuel> call) {
        ColourDuel x = rich();
        call.accept(x);
        return x;
    }

    private static void changes(Sentences s) {
        s.says("The changes are all calls of load, lay, pass, playOut, setPasses and restore that succeed", () -> {
            for (int k = 0; k < CHANGES.size(); k++) {
                Check.due("change " + k, behind(CHANGES.get(k)).undo(), 3);
            }
            List<Consumer<ColourDuel>> others = List.of(x -> Check.append(x, " "), x -> x.save(0),
                    x -> x.save(1), x -> x.writeBoard(), x -> x.undo(), x -> Probe.board(x));
            for (int k = 0; k < others.size(); k++) {
                Check.due("no change " + k, behind(others.get(k)).undo(), k == 4 ? 1 : 2);
            }
            List<Consumer<ColourDuel>> fail = List.of(x -> x.load(99), x -> x.lay(1, 0), x -> x.lay(6, 0),
                    x -> x.playOut(0), x -> x.playOut(21), x -> x.setPasses(-1), x -> x.setPasses(10),
                    x -> x.restore(0), x -> x.restore(2));
            for (int k = 0; k < fail.size(); k++) {
                Consumer<ColourDuel> call = fail.get(k);
                ColourDuel x = rich();
                Check.due("a call that throws, " + k, Check.outcome(() -> {
                    call.accept(x);
                    return "";
                }) instanceof Class, true);
                Check.due("is no change", x.undo(), 2);
            }
            ColourDuel none = behind(x -> x.setPasses(0));
            Check.throwsState("a pass that is not left", () -> none.pass());
            Check.due("is no change", none.undo(), 3);
        });
        s.says("(a text with an error is no change).", () -> {
            String[] texts = {"", "colours 0; vertex;", "colours 1; vertex; edge 0 0;",
                "colours 1; vertex; pass;", "colours 1;" + Check.vertices(10),
                "colours 1; vertex; vertex; edge 0 1; edge 1 0;"};
            for (String text : texts) {
                ColourDuel x = Check.board("colours 2; vertex; lay 0 b;");
                Check.due("an error", Check.load(x, text) < 0, true);
                Check.due("the board stays", Check.written(x), "b/1/0");
                Check.due("no change", x.undo(), 0);
                Check.throwsState("none at all", () -> x.undo());
            }
        });
        s.says("The latest 8 changes can be undone, older ones cannot any more", () -> {
            for (int changes = 0; changes <= 20; changes++) {
                ColourDuel x = new ColourDuel();
                for (int k = 0; k < changes; k++) {
                    CHANGES_OF_NEW.get(k % 4).accept(x);
                }
                int left = Math.min(changes, 8);
                for (int k = left - 1; k >= 0; k--) {
                    Check.due(changes + " changes, " + k + " behind", x.undo(), k);
                }
                Check.throwsState("no more of " + changes, () -> x.undo());
            }
            ColourDuel nine = Check.board("colours 1;" + Check.vertices(9));
            for (int v = 0; v < 9; v++) {
                nine.lay(v, 0);
            }
            for (int k = 7; k >= 0; k--) {
                nine.undo();
            }
            Check.due("the lay before the latest 8 stays", Check.written(nine), "a......../1/0");
        });
    }

    private static void undone(Sentences s) {
        s.says("undoing a change brings back everything as it was before it", () -> {
            List<String> before = undoable(ChangeSentences::rich);
            for (int k = 0; k < CHANGES.size(); k++) {
                Consumer<ColourDuel> change = CHANGES.get(k);
                Check.due("behind change " + k, undoable(() -> {
                    ColourDuel x = behind(change);
                    x.undo();
                    return x;
                }), before);
            }
        });
        s.says("but not the text buffer, the position of the error, the written text and the slots.", () -> {
            ColourDuel x = Check.board("colours 2; vertex; vertex;");
            x.lay(0, 1);
            Check.append(x, "colours 1; vertex;");
            x.save(0);
            Check.due("written", Check.written(x), "b./1/0");
            x.undo();
            Check.due("the written text stays", Probe.written(x), "b./1/0");
            Check.due("the buffer stays", x.load(18), 1);
            Check.throwsArgument("the buffer is empty", () -> x.load(1));
            x.undo();
            Check.throwsArgument("and stays empty", () -> x.load(1));
            Check.due("the slot stays", x.restore(0), 1);
            Check.due("with what was saved", Check.written(x), "b./1/0");
            Check.due("an error", Check.load(x, "colours 7;"), ColourDuel.VALUE_ERROR);
            x.undo();
            Check.due("its position stays", x.errorPosition(), 8);
            Check.load(x, "colours 1; vertex;");
            x.undo();
            Check.due("none stays as well", x.errorPosition(), ColourDuel.NONE);
        });
    }

    /** The board, and the boards before it. */
    private static List<String> undoable(Supplier<ColourDuel> made) {
        List<String> all = Probe.everything(made);
        return List.of(all.get(0), all.get(5));
    }

    private static void throwing(Sentences s) {
        s.says("A method that throws an exception changes nothing.", () -> {
            List<Consumer<ColourDuel>> calls = List.of(x -> x.load(-1), x -> x.load(61), x -> x.count(13),
                    x -> x.vertex(6, 0), x -> x.vertex(0, 6), x -> x.reason(0, 3), x -> x.part(9, 0),
                    x -> x.part(0, 8), x -> x.valueIf(6, 0), x -> x.valueIf(1, 0), x -> x.winningColours(6),
                    x -> x.falls(6), x -> x.falls(1), x -> x.valueWithout(6), x -> x.valueWithout(1),
                    x -> x.lay(6, 0), x -> x.lay(0, 3), x -> x.lay(1, 0), x -> x.lay(0, 2), x -> x.lay(2, 2),
                    x -> x.lay(3, 0), x -> x.playOut(0), x -> x.playOut(21), x -> x.setPasses(-1),
                    x -> x.setPasses(10), x -> x.move(3, 0), x -> x.move(0, 4), x -> x.account(2, 0),
                    x -> x.account(0, 5), x -> x.writtenByte(-1), x -> x.writtenByte(10), x -> x.save(-1),
                    x -> x.save(2), x -> x.restore(-1), x -> x.restore(2), x -> x.restore(0));
            for (int k = 0; k < calls.size(); k++) {
                throwsAndChangesNothing("call " + k, ChangeSentences::rich, calls.get(k));
            }
            Supplier<ColourDuel> full = () -> behind(x -> Check.append(x, " ".repeat(440)));
            throwsAndChangesNothing("append", full, x -> x.append(0, 0, 0, 0, 0));
            Supplier<ColourDuel> over = () -> behind(x -> x.playOut(20));
            throwsAndChangesNothing("bestMove", over, x -> x.bestMove());
            throwsAndChangesNothing("pass", over, x -> x.pass());
            throwsAndChangesNothing("undo", ColourDuel::new, x -> x.undo());
        });
    }

    private static void throwsAndChangesNothing(
            String what, Supplier<ColourDuel> made, Consumer<ColourDuel> call) {
        Check.due(what + " throws", Check.outcome(() -> {
            call.accept(made.get());
            return "";
        }) instanceof Class, true);
        Probe.changesNothing(what, made, call);
    }

    private static void firstNamed(Sentences s) {
        s.says("If several exceptions apply, the one named first is thrown.", () -> {
            ColourDuel x = rich();
            Check.throwsIndex("vertex", () -> x.vertex(6, 6));
            Check.throwsIndex("part", () -> x.part(9, 8));
            Check.throwsIndex("move", () -> x.move(3, 4));
            Check.throwsIndex("account", () -> x.account(2, 5));
            Check.throwsIndex("valueIf, no vertex", () -> x.valueIf(6, 0));
            Check.throwsIndex("valueIf, no colour on what is not free", () -> x.valueIf(1, 3));
            Check.throwsIndex("valueIf, colour -1 on what is not free", () -> x.valueIf(1, -1));
            Check.throwsIndex("falls", () -> x.falls(6));
            Check.throwsIndex("valueWithout", () -> x.valueWithout(6));
            Check.throwsIndex("lay, no vertex", () -> x.lay(6, 0));
            Check.throwsIndex("lay, no colour on what is not free", () -> x.lay(1, 3));
            Check.throwsIndex("lay, colour -1 on what is not free", () -> x.lay(1, -1));
            Check.throwsIndex("restore", () -> new ColourDuel().restore(2));
        });
    }

    private static void indices(Sentences s) {
        s.says("An IndexOutOfBoundsException is thrown if a vertex, colour, part, player, slot or other"
                + " index does not exist.", () -> {
            Check.indices("vertex: vertex", 6, v -> rich().vertex(v, 0));
            Check.indices("reason: vertex", 6, v -> rich().reason(v, 0));
            Check.indices("reason: colour", 3, c -> rich().reason(0, c));
            Check.indices("valueIf: vertex", 6, v -> rich().valueIf(v, 0));
            Check.indices("valueIf: colour", 3, c -> rich().valueIf(0, c));
            Check.indices("winningColours: vertex", 6, v -> rich().winningColours(v));
            Check.indices("falls: vertex", 6, v -> rich().falls(v));
            Check.indices("valueWithout: vertex", 6, v -> rich().valueWithout(v));
            Check.indices("lay: vertex", 6, v -> rich().lay(v, 0));
            Check.indices("lay: colour", 3, c -> rich().lay(0, c));
            Check.indices("part: part", 2, p -> rich().part(p, 0));
            Check.indices("account: player", 2, p -> rich().account(p, 0));
            Check.indices("move: move", 3, m -> rich().move(m, 0));
            Check.indices("save: slot", 2, k -> rich().save(k));
            Check.indices("restore: slot", 2, k -> rich().restore(k));
            Check.indices("writtenByte: index", 10, k -> rich().writtenByte(k));
        });
        s.says("Sets of colours are numbers in which the colour k is worth 2 to the power k.", () -> {
            ColourDuel x = Check.board("colours 3; vertex a; vertex b; vertex c; vertex ac;");
            for (int v = 0; v < 4; v++) {
                int set = v < 3 ? 1 << v : 5;
                Check.due("the list of " + v, x.vertex(v, 1), set);
                Check.due("what can be laid on " + v, x.vertex(v, 2), set);
                x.setPasses(1);
                Check.due("what wins on " + v, x.winningColours(v), set);
                x.setPasses(0);
                Check.due("what does not win on " + v, x.winningColours(v), 0);
            }
        });
    }

    private static void constants(Sentences s) {
        s.says("The constants: NONE = -1: The value -1: there is none.",
                () -> Check.due("NONE", ColourDuel.NONE, -1));
        s.says("SYNTAX_ERROR = -2: Error code of load: the text does not follow the grammar.",
                () -> Check.due("SYNTAX_ERROR", ColourDuel.SYNTAX_ERROR, -2));
        s.says("VALUE_ERROR = -3: Error code of load: something that cannot be.",
                () -> Check.due("VALUE_ERROR", ColourDuel.VALUE_ERROR, -3));
        s.says("TWICE = -4: Error code of load: an edge that is told already.",
                () -> Check.due("TWICE", ColourDuel.TWICE, -4));
        s.says("REFUSED = -5: Error code of load: a move that cannot be made.",
                () -> Check.due("REFUSED", ColourDuel.REFUSED, -5));
        s.says("TOO_MANY = -6: Error code of load: there is too much of something.",
                () -> Check.due("TOO_MANY", ColourDuel.TOO_MANY, -6));
        s.namesNoBound("Ahead of the calls append, load, errorPosition, count, vertex, reason, part"
                + " the interface says: ---- setup.",
                "Ahead of the calls value, valueIf, winningMoves, bestMove, longest, shortest, meanValue,"
                + " winningColours, falls, valueWithout the interface says: ---- values.",
                "Ahead of the calls lay, pass, playOut, setPasses, move, account the interface says:"
                + " ---- moves.",
                "Ahead of the calls writeBoard, writtenByte, undo, save, restore the interface says:"
                + " ---- texts, undo and slots.");
    }
}
