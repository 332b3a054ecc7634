import java.util.NoSuchElementException;

/**
 * A duel on a graph: two players lay colours on free vertices in turn. What each call
 * promises is told by the document; README.md tells how the parts of this file share the work.
 *
 * <p>Sets of vertices and sets of colours are ints in which the member k is worth 2 to the power k.
 */
public final class ColourDuel {
    public static final int NONE = -1;
    public static final int SYNTAX_ERROR = -2;
    public static final int VALUE_ERROR = -3;
    public static final int TWICE = -4;
    public static final int REFUSED = -5;
    public static final int TOO_MANY = -6;

    private static final int MOST_VERTICES = 9;
    private static final int MOST_COLOURS = 3;
    private static final int MOST_PASSES = 9;
    private static final int MOST_POSITIONS = 20000;
    private static final int MOST_BYTES = 500;
    private static final int MOST_CHANGES = 8;
    private static final int MOST_PLAYED = 20;
    private static final int SLOTS = 2;
    private static final int PASS_MOVE = 100;

    private final Board board;
    private final Solver solver;
    private final Reader reader;
    private final History history;
    private final Board[] slots;
    private final byte[] written;
    private int writtenLength;
    private int loads;

    public ColourDuel() {
        solver = new Solver();
        board = solver.board;
        reader = new Reader();
        history = new History();
        slots = new Board[SLOTS];
        written = new byte[MOST_VERTICES + 4];
    }

    // ---- setup

    public int append(int a, int b, int c, int d, int e) throws IllegalStateException {
        if (reader.filled + 20 > MOST_BYTES) {
            throw new IllegalStateException("the text buffer is full");
        }
        reader.addFour(a);
        reader.addFour(b);
        reader.addFour(c);
        reader.addFour(d);
        reader.addFour(e);
        return reader.filled;
    }

    public int load(int length) throws IllegalArgumentException {
        if (length < 0 || length > reader.filled) {
            throw new IllegalArgumentException("no such length");
        }
        int error = reader.readText(length);
        if (error != 0) {
            return error;
        }
        history.keep(board);
        loads++;
        board.takeFrom(reader.draft);
        board.number = loads;
        return board.vertices;
    }

    public int errorPosition() {
        return reader.errorAt;
    }

    public int count(int what) throws IllegalArgumentException {
        switch (what) {
            case 0: return board.vertices;
            case 1: return board.edgesIn(board.everyVertex());
            case 2: return board.colours;
            case 3: return board.passes;
            case 4: return Integer.bitCount(board.free);
            case 5: return board.partsIn(board.free);
            case 6: return board.turn();
            case 7: return board.made;
            case 8: return board.isOver() ? 1 : 0;
            case 9: return board.isOver() ? 1 - board.turn() : NONE;
            case 10: return board.choicesIn(board.free);
            case 11: return board.stuckVertices();
            case 12: return board.passValue();
            default: throw new IllegalArgumentException("no such number of the board");
        }
    }

    public int vertex(int vertex, int what)
            throws IndexOutOfBoundsException, IllegalArgumentException {
        if (!board.hasVertex(vertex)) {
            throw new IndexOutOfBoundsException("no such vertex");
        }
        switch (what) {
            case 0: return board.colourOf(vertex);
            case 1: return board.listOf(vertex);
            case 2: return board.choicesOn(vertex);
            case 3: return Integer.bitCount(board.neighbours(vertex));
            case 4: return board.isFree(vertex) ? board.partNumberOf(vertex) : NONE;
            case 5: return Integer.bitCount(board.neighbours(vertex) & board.free);
            default: throw new IllegalArgumentException("no such number of a vertex");
        }
    }

    public int reason(int vertex, int colour) throws IndexOutOfBoundsException {
        if (!board.hasPair(vertex, colour)) {
            throw new IndexOutOfBoundsException("no such vertex or colour");
        }
        return board.whyNot(vertex, colour);
    }

    public int part(int part, int what)
            throws IndexOutOfBoundsException, IllegalArgumentException {
        int members = board.partAt(part);
        if (members == 0) {
            throw new IndexOutOfBoundsException("no such part");
        }
        switch (what) {
            case 0: return Integer.bitCount(members);
            case 1: return least(members);
            case 2: return board.banOf(members);
            case 3: return board.edgesIn(members);
            case 4: return board.choicesIn(members);
            case 5: return valueIn(solver.ofPartsIn(members));
            case 6: return longestIn(solver.ofPartsIn(members));
            case 7: return shortestIn(solver.ofPartsIn(members));
            default: throw new IllegalArgumentException("no such number of a part");
        }
    }

    // ---- values

    public int value() {
        return valueIn(solver.ofPartsIn(board.free)) ^ board.passValue();
    }

    public int valueIf(int vertex, int colour)
            throws IndexOutOfBoundsException, NoSuchElementException {
        if (!board.hasPair(vertex, colour)) {
            throw new IndexOutOfBoundsException("no such vertex or colour");
        }
        if (board.whyNot(vertex, colour) != 0) {
            throw new NoSuchElementException("the colour cannot be laid there");
        }
        return valueIn(solver.behindLay(vertex, colour)) ^ board.passValue();
    }

    public int winningMoves() {
        int moves = passWins() ? 1 : 0;
        for (int v = 0; v < board.vertices; v++) {
            moves += Integer.bitCount(winnersOn(v));
        }
        return moves;
    }

    public int bestMove() throws NoSuchElementException {
        if (board.isOver()) {
            throw new NoSuchElementException("the game is over");
        }
        return chosenMove();
    }

    public int longest() {
        return longestIn(solver.ofPartsIn(board.free)) + board.passes;
    }

    public int shortest() {
        return shortestIn(solver.ofPartsIn(board.free)) + board.passes;
    }

    public float meanValue() {
        int parts = board.partsIn(board.free);
        if (parts == 0) {
            return 0;
        }
        int sum = 0;
        for (int part = 0; part < parts; part++) {
            sum += valueIn(solver.ofPartsIn(board.partAt(part)));
        }
        return (float) sum / parts;
    }

    public int winningColours(int vertex) throws IndexOutOfBoundsException {
        if (!board.hasVertex(vertex)) {
            throw new IndexOutOfBoundsException("no such vertex");
        }
        return winnersOn(vertex);
    }

    public int falls(int vertex) throws IndexOutOfBoundsException, NoSuchElementException {
        if (!board.hasVertex(vertex)) {
            throw new IndexOutOfBoundsException("no such vertex");
        }
        if (!board.isFree(vertex)) {
            throw new NoSuchElementException("the vertex is not free");
        }
        return board.partsIn(board.partWith(vertex) & ~(1 << vertex));
    }

    public int valueWithout(int vertex)
            throws IndexOutOfBoundsException, NoSuchElementException {
        if (!board.hasVertex(vertex)) {
            throw new IndexOutOfBoundsException("no such vertex");
        }
        if (!board.isFree(vertex)) {
            throw new NoSuchElementException("the vertex is not free");
        }
        return valueIn(solver.without(vertex)) ^ board.passValue();
    }

    // ---- moves

    public int lay(int vertex, int colour)
            throws IndexOutOfBoundsException, IllegalStateException {
        if (!board.hasPair(vertex, colour)) {
            throw new IndexOutOfBoundsException("no such vertex or colour");
        }
        if (board.whyNot(vertex, colour) != 0) {
            throw new IllegalStateException("the colour cannot be laid there");
        }
        history.keep(board);
        board.paint(vertex, colour);
        return board.partsIn(board.free);
    }

    public int pass() throws IllegalStateException {
        if (board.passes == 0) {
            throw new IllegalStateException("no pass is left");
        }
        history.keep(board);
        board.spendPass();
        return board.passes;
    }

    public int playOut(int most) throws IllegalArgumentException {
        if (most < 1 || most > MOST_PLAYED) {
            throw new IllegalArgumentException("no such number of moves");
        }
        history.keep(board);
        int played = 0;
        while (played < most && !board.isOver()) {
            int best = chosenMove();
            if (best == PASS_MOVE) {
                board.spendPass();
            } else {
                board.paint(best / 4, best % 4);
            }
            played++;
        }
        return played;
    }

    public int setPasses(int passes) throws IllegalArgumentException {
        if (passes < 0 || passes > MOST_PASSES) {
            throw new IllegalArgumentException("no such number of passes");
        }
        history.keep(board);
        int previous = board.passes;
        board.passes = passes;
        return previous;
    }

    public int move(int move, int what)
            throws IndexOutOfBoundsException, IllegalArgumentException {
        Move found = board.moveAt(move);
        if (found == null) {
            throw new IndexOutOfBoundsException("no such move");
        }
        switch (what) {
            case 0: return move % 2;
            case 1: return found.vertex;
            case 2: return found.colour;
            case 3: return found.partsBehind;
            default: throw new IllegalArgumentException("no such number of a move");
        }
    }

    public int account(int player, int what)
            throws IndexOutOfBoundsException, IllegalArgumentException {
        if (player < 0 || player > 1) {
            throw new IndexOutOfBoundsException("no such player");
        }
        if (what < 0 || what > 4) {
            throw new IllegalArgumentException("no such account");
        }
        return what == 4
                ? Integer.bitCount(board.coloursLaidBy(player))
                : board.movesBy(player, what);
    }

    // ---- texts, undo and slots

    public int writeBoard() {
        writtenLength = 0;
        for (int v = 0; v < board.vertices; v++) {
            write(board.isFree(v) ? '.' : 'a' + board.colourOf(v));
        }
        write('/');
        write('0' + board.turn());
        write('/');
        write('0' + board.passes);
        return writtenLength;
    }

    public int writtenByte(int index) throws IndexOutOfBoundsException {
        if (index < 0 || index >= writtenLength || index >= written.length) {
            throw new IndexOutOfBoundsException("no such byte");
        }
        return written[index];
    }

    public int undo() throws IllegalStateException {
        if (history.held == 0) {
            throw new IllegalStateException("there is no change to undo");
        }
        history.bringBack(board);
        return history.held;
    }

    public int save(int slot) throws IndexOutOfBoundsException {
        if (slot < 0 || slot >= slots.length) {
            throw new IndexOutOfBoundsException("no such slot");
        }
        keepCopy(slots, slot, board);
        return board.made;
    }

    public int restore(int slot) throws IndexOutOfBoundsException, IllegalStateException {
        if (slot < 0 || slot >= slots.length) {
            throw new IndexOutOfBoundsException("no such slot");
        }
        Board saved = slots[slot];
        if (saved == null) {
            throw new IllegalStateException("nothing was saved there");
        }
        history.keep(board);
        board.takeFrom(saved);
        return board.made;
    }

    // ---- what several calls share

    private int winnersOn(int vertex) {
        int choices = board.choicesOn(vertex);
        int winners = 0;
        for (int colour = 0; colour < MOST_COLOURS; colour++) {
            if (has(choices, colour)
                    && valueIn(solver.behindLay(vertex, colour)) == board.passValue()) {
                winners |= 1 << colour;
            }
        }
        return winners;
    }

    private boolean passWins() {
        // the passes are worth 0 and 1 in turn, so one less turns that bit
        int behind = valueIn(solver.ofPartsIn(board.free)) ^ board.passValue() ^ 1;
        return board.passes > 0 && behind == 0;
    }

    /** The move that bestMove tells of, in a game that is not over. */
    private int chosenMove() {
        int best = PASS_MOVE;
        int longestBehind = NONE;
        for (int v = 0; v < board.vertices; v++) {
            int choices = board.choicesOn(v);
            for (int colour = 0; colour < MOST_COLOURS; colour++) {
                if (has(choices, colour)) {
                    int behind = solver.behindLay(v, colour);
                    if (valueIn(behind) == board.passValue()) {
                        return 4 * v + colour;
                    }
                    if (longestIn(behind) + board.passes > longestBehind) {
                        longestBehind = longestIn(behind) + board.passes;
                        best = 4 * v + colour;
                    }
                }
            }
        }
        boolean passIsBest = passWins() || longest() - 1 > longestBehind;
        return board.passes > 0 && passIsBest ? PASS_MOVE : best;
    }

    private void write(int letter) {
        if (writtenLength >= 0 && writtenLength < written.length) {
            written[writtenLength] = (byte) letter;
            writtenLength++;
        }
    }

    private static boolean has(int set, int member) {
        return member >= 0 && member < 32 && (set & 1 << member) != 0;
    }

    private static int least(int set) {
        return Integer.bitCount((set & -set) - 1);
    }

    private static int at(int[] row, int index) {
        return index >= 0 && index < row.length ? row[index] : 0;
    }

    private static void add(int[] row, int index, int set) {
        if (index >= 0 && index < row.length) {
            row[index] |= set;
        }
    }

    private static void copyRow(int[] from, int[] to) {
        for (int k = 0; k < to.length && k < from.length; k++) {
            to[k] = from[k];
        }
    }

    private static void clearRow(int[] row) {
        for (int k = 0; k < row.length; k++) {
            row[k] = 0;
        }
    }

    private static void keepCopy(Board[] row, int index, Board board) {
        if (index >= 0 && index < row.length) {
            Board copy = row[index] == null ? new Board() : row[index];
            copy.takeFrom(board);
            row[index] = copy;
        }
    }

    // ---- answers of the solver: value, longest and shortest game in one int, so that
    // one cache holds all three and no object is made for them

    private static int answerOf(int value, int longest, int shortest) {
        return value | longest << 8 | shortest << 16;
    }

    private static int valueIn(int answer) {
        return answer & 255;
    }

    private static int longestIn(int answer) {
        return answer >> 8 & 255;
    }

    private static int shortestIn(int answer) {
        return answer >> 16 & 255;
    }

    private static int together(int answer, int other) {
        int games = (answer & ~255) + (other & ~255);
        return (answer ^ other) & 255 | games;
    }

    /**
     * A move that was made, and behind it all moves before it. It never changes, so that
     * all copies of a board can hold the same chain.
     */
    private static final class Move {
        final Move before;
        final int vertex;
        final int colour;
        final int partsBehind;
        final int pieces;

        Move(Move before, int vertex, int colour, int partsBehind, int pieces) {
            this.before = before;
            this.vertex = vertex;
            this.colour = colour;
            this.partsBehind = partsBehind;
            this.pieces = pieces;
        }

        boolean countsAs(int account) {
            switch (account) {
                case 0: return vertex != NONE;
                case 1: return vertex == NONE;
                case 2: return vertex != NONE && pieces >= 2;
                case 3: return vertex != NONE && pieces == 0;
                default: return false;
            }
        }
    }

    /** All that undo can bring back: the graph, what was laid on it, and the moves. */
    private static final class Board {
        /** Which load it comes from: so the solver never takes one graph for another. */
        int number;
        int colours;
        int vertices;
        int passes;
        int free;
        int made;
        Move latest;
        /** For each vertex, its neighbours. */
        final int[] near = new int[MOST_VERTICES];
        /** For each colour, the vertices that have it in their lists. */
        final int[] listed = new int[MOST_COLOURS];
        /** For each colour, the vertices on which it lies. */
        final int[] painted = new int[MOST_COLOURS];
        /** For each colour, the free vertices of the parts that have it as their ban. */
        final int[] banned = new int[MOST_COLOURS];

        Board() {
            colours = 1;
            vertices = 1;
            free = 1;
            for (int c = 0; c < colours && c < listed.length; c++) {
                listed[c] = 1;
            }
        }

        void takeFrom(Board other) {
            number = other.number;
            colours = other.colours;
            vertices = other.vertices;
            passes = other.passes;
            free = other.free;
            made = other.made;
            latest = other.latest;
            copyRow(other.near, near);
            copyRow(other.listed, listed);
            copyRow(other.painted, painted);
            copyRow(other.banned, banned);
        }

        // -- making the graph

        void startEmpty(int newColours) {
            colours = newColours;
            vertices = 0;
            passes = 0;
            free = 0;
            made = 0;
            latest = null;
            clearRow(near);
            clearRow(listed);
            clearRow(painted);
            clearRow(banned);
        }

        boolean isFull() {
            int positions = 1;
            for (int v = 0; v <= vertices && v <= MOST_VERTICES; v++) {
                positions *= colours + 1;
            }
            return vertices >= MOST_VERTICES || positions > MOST_POSITIONS;
        }

        void addVertex(int list) {
            int bit = 1 << vertices;
            for (int c = 0; c < listed.length; c++) {
                if (has(list, c)) {
                    listed[c] |= bit;
                }
            }
            free |= bit;
            vertices++;
        }

        void addEdge(int one, int other) {
            add(near, one, 1 << other);
            add(near, other, 1 << one);
        }

        // -- the graph

        boolean hasVertex(int vertex) {
            return vertex >= 0 && vertex < vertices;
        }

        boolean hasPair(int vertex, int colour) {
            return hasVertex(vertex) && colour >= 0 && colour < colours;
        }

        int everyVertex() {
            return (1 << vertices) - 1;
        }

        int everyColour() {
            return (1 << colours) - 1;
        }

        int neighbours(int vertex) {
            return vertex >= 0 && vertex < near.length ? near[vertex] : 0;
        }

        int edgesIn(int set) {
            int ends = 0;
            for (int v = 0; v < near.length; v++) {
                if (has(set, v)) {
                    ends += Integer.bitCount(near[v] & set);
                }
            }
            return ends / 2;
        }

        int listOf(int vertex) {
            return coloursAt(listed, vertex);
        }

        private int coloursAt(int[] rows, int vertex) {
            int found = 0;
            for (int c = 0; c < rows.length; c++) {
                if (has(rows[c], vertex)) {
                    found |= 1 << c;
                }
            }
            return found;
        }

        // -- parts

        boolean isFree(int vertex) {
            return has(free, vertex);
        }

        /** What can be reached from the vertices of start inside the set. */
        int reachable(int start, int set) {
            int reached = start & set;
            int fresh = reached;
            for (int k = 0; k < MOST_VERTICES && fresh != 0; k++) {
                int bit = fresh & -fresh;
                int vertex = Integer.bitCount(bit - 1);
                boolean known = vertex >= 0 && vertex < near.length;
                int found = known ? near[vertex] & set & ~reached : 0;
                reached |= found;
                fresh = fresh & ~bit | found;
            }
            return reached;
        }

        int partWith(int vertex) {
            return reachable(1 << vertex, free);
        }

        int partsIn(int set) {
            int parts = 0;
            int rest = set;
            while (parts < MOST_VERTICES && rest != 0) {
                rest &= ~reachable(rest & -rest, rest);
                parts++;
            }
            return parts;
        }

        /** The members of a part; 0 if there is no such part. */
        int partAt(int part) {
            int rest = free;
            for (int k = 0; k < part && k < MOST_VERTICES; k++) {
                rest &= ~reachable(rest & -rest, rest);
            }
            return part < 0 ? 0 : reachable(rest & -rest, rest);
        }

        int partNumberOf(int vertex) {
            int part = 0;
            while (part < MOST_VERTICES && !has(partAt(part), vertex)) {
                part++;
            }
            return part;
        }

        int banOf(int part) {
            for (int c = 0; c < banned.length; c++) {
                if ((banned[c] & part) != 0) {
                    return c;
                }
            }
            return NONE;
        }

        // -- what can be laid

        int colourOf(int vertex) {
            int found = coloursAt(painted, vertex);
            return found == 0 ? NONE : least(found);
        }

        int whyNot(int vertex, int colour) {
            if (!isFree(vertex)) {
                return 1;
            }
            if (!has(at(listed, colour), vertex)) {
                return 2;
            }
            if ((neighbours(vertex) & at(painted, colour)) != 0) {
                return 3;
            }
            boolean alone = (neighbours(vertex) & free) == 0;
            return !alone && has(at(banned, colour), vertex) ? 4 : 0;
        }

        int choicesOn(int vertex) {
            int choices = 0;
            for (int c = 0; c < colours; c++) {
                if (whyNot(vertex, c) == 0) {
                    choices |= 1 << c;
                }
            }
            return choices;
        }

        int choicesIn(int set) {
            int pairs = 0;
            for (int v = 0; v < MOST_VERTICES; v++) {
                if (has(set, v)) {
                    pairs += Integer.bitCount(choicesOn(v));
                }
            }
            return pairs;
        }

        int stuckVertices() {
            int stuck = 0;
            for (int v = 0; v < MOST_VERTICES; v++) {
                if (isFree(v) && choicesOn(v) == 0) {
                    stuck++;
                }
            }
            return stuck;
        }

        /** The free vertices that have the colour in their lists and no neighbour with it. */
        int openTo(int colour) {
            int open = at(listed, colour) & free;
            for (int v = 0; v < near.length; v++) {
                if ((near[v] & at(painted, colour)) != 0) {
                    open &= ~(1 << v);
                }
            }
            return open;
        }

        // -- moves

        int turn() {
            return made & 1;
        }

        boolean isOver() {
            return passes == 0 && choicesIn(free) == 0;
        }

        /** Passes alone are a row of forced moves, so their value is 0 and 1 in turn. */
        int passValue() {
            return passes & 1;
        }

        void paint(int vertex, int colour) {
            int rest = partWith(vertex) & ~(1 << vertex);
            free &= ~(1 << vertex);
            for (int c = 0; c < banned.length; c++) {
                banned[c] &= ~rest;
            }
            add(banned, colour, rest);
            add(painted, colour, 1 << vertex);
            latest = new Move(latest, vertex, colour, partsIn(free), partsIn(rest));
            made++;
        }

        void spendPass() {
            passes--;
            latest = new Move(latest, NONE, NONE, partsIn(free), NONE);
            made++;
        }

        /** The move of that number; null if there is none. */
        Move moveAt(int number) {
            if (number < 0 || number >= made) {
                return null;
            }
            Move found = latest;
            for (int k = made - 1; k > number && found != null; k--) {
                found = found.before;
            }
            return found;
        }

        int movesBy(int player, int account) {
            int counted = 0;
            Move move = latest;
            for (int k = made - 1; k >= 0 && move != null; k--) {
                if ((k & 1) == player && move.countsAs(account)) {
                    counted++;
                }
                move = move.before;
            }
            return counted;
        }

        int coloursLaidBy(int player) {
            int laid = 0;
            Move move = latest;
            for (int k = made - 1; k >= 0 && move != null; k--) {
                if ((k & 1) == player && move.colour != NONE) {
                    laid |= 1 << move.colour;
                }
                move = move.before;
            }
            return laid;
        }
    }

    /** Keeps the boards as they were before the latest changes, the oldest giving way. */
    private static final class History {
        int held;
        private int next;
        private final Board[] kept = new Board[MOST_CHANGES];

        void keep(Board board) {
            keepCopy(kept, next, board);
            next = next + 1 < kept.length ? next + 1 : 0;
            held = Math.min(held + 1, kept.length);
        }

        void bringBack(Board board) {
            int last = next > 0 ? next - 1 : kept.length - 1;
            boolean known = last >= 0 && last < kept.length;
            if (held > 0 && known && kept[last] != null) {
                board.takeFrom(kept[last]);
                next = last;
                held--;
            }
        }
    }

    /**
     * Works out values and games of parts, each part by itself.
     *
     * <p>A part in one position is one long, its place: nine bits for its vertices, nine for
     * those of them that are open to each of the colours, two for its ban, and above them the
     * board's number. Nothing else matters for the part, so a place is a whole key, and the
     * answers that were found may stay when the board changes.
     */
    private static final class Solver {
        /** The lowest bit of each of the four sets of vertices in a place. */
        private static final long EACH_SET = 1L | 1L << 9 | 1L << 18 | 1L << 27;
        private static final int ALL_VERTICES = (1 << MOST_VERTICES) - 1;
        private static final int BAN_SHIFT = 36;
        private static final long BAN_BITS = 3L << BAN_SHIFT;
        private static final int NUMBER_SHIFT = 38;
        private static final int CACHE_BITS = 15;
        /** Near 2 to the power 64 divided by the golden ratio: spreads places over the cache. */
        private static final long SPREAD = 0x9E3779B97F4A7C15L;

        /** The board of the duel, which the solver looks at and never changes. */
        final Board board = new Board();
        /** A cache that forgets: a new place drives out the one that stood where it goes. */
        private final long[] places = new long[1 << CACHE_BITS];
        private final int[] answers = new int[1 << CACHE_BITS];

        /** The answer for all parts of the board inside a set of free vertices together. */
        int ofPartsIn(int set) {
            int answer = 0;
            int rest = set;
            for (int k = 0; k < MOST_VERTICES && rest != 0; k++) {
                int part = board.reachable(rest & -rest, rest);
                answer = together(answer, ofPlace(placeOf(part), 0));
                rest &= ~part;
            }
            return answer;
        }

        int behindLay(int vertex, int colour) {
            int part = board.partWith(vertex);
            long place = behind(placeOf(part), vertex, colour);
            return together(ofPartsIn(board.free & ~part), ofPieces(place, 0));
        }

        int without(int vertex) {
            int part = board.partWith(vertex);
            long place = placeOf(part) & ~(EACH_SET << vertex);
            return together(ofPartsIn(board.free & ~part), ofPieces(place, 0));
        }

        private long placeOf(int part) {
            long place = (long) board.number << NUMBER_SHIFT
                    | (long) (board.banOf(part) + 1) << BAN_SHIFT
                    | part;
            for (int c = 0; c < MOST_COLOURS; c++) {
                place |= (long) (board.openTo(c) & part) << setShift(c);
            }
            return place;
        }

        private static int setShift(int colour) {
            return 9 * (colour + 1);
        }

        private long behind(long place, int vertex, int colour) {
            long closed = (long) board.neighbours(vertex) << setShift(colour);
            return place & ~(EACH_SET << vertex | closed | BAN_BITS)
                    | (long) (colour + 1) << BAN_SHIFT;
        }

        /** The answer for vertices that may have fallen apart. */
        private int ofPieces(long place, int depth) {
            long head = place & -1L << BAN_SHIFT;
            int rest = (int) place & ALL_VERTICES;
            int answer = 0;
            for (int k = 0; k < MOST_VERTICES && rest != 0; k++) {
                int piece = board.reachable(rest & -rest, rest);
                answer = together(answer, ofPlace(head | place & EACH_SET * piece, depth));
                rest &= ~piece;
            }
            return answer;
        }

        private int ofPlace(long place, int depth) {
            int slot = (int) (place * SPREAD >>> 64 - CACHE_BITS);
            if (slot < 0 || slot >= places.length || slot >= answers.length) {
                return 0;
            }
            if (places[slot] != place) {
                int answer = workOut(place, depth);
                places[slot] = place;
                answers[slot] = answer;
            }
            return answers[slot];
        }

        private int workOut(long place, int depth) {
            if (depth > MOST_VERTICES) {
                return 0;
            }
            int part = (int) place & ALL_VERTICES;
            boolean alone = (part & part - 1) == 0;
            int ban = (int) (place >>> BAN_SHIFT & 3) - 1;
            int values = 0;
            int longest = 0;
            int shortest = MOST_VERTICES + 1;
            for (int c = 0; c < MOST_COLOURS; c++) {
                int open = c == ban && !alone ? 0 : (int) (place >>> setShift(c)) & ALL_VERTICES;
                for (int v = 0; v < MOST_VERTICES; v++) {
                    if (has(open, v)) {
                        int answer = ofPieces(behind(place, v, c), depth + 1);
                        values |= 1 << valueIn(answer);
                        longest = Math.max(longest, longestIn(answer) + 1);
                        shortest = Math.min(shortest, shortestIn(answer) + 1);
                    }
                }
            }
            return values == 0 ? 0 : answerOf(least(~values), longest, shortest);
        }
    }

    /** Holds the text buffer and reads a board from it. */
    private static final class Reader {
        private static final int END = 0;
        private static final int WORD = 1;
        private static final int NUMBER = 2;
        private static final int SEMICOLON = 3;
        private static final int OTHER = 4;
        /** Every number of this size or above is out of every range. */
        private static final int LARGE = 1000;

        /** The board as far as it is read, for the duel to take over if the text has no error. */
        final Board draft = new Board();
        int filled;
        int errorAt = NONE;
        private final byte[] bytes = new byte[MOST_BYTES];
        private int length;
        private int error;
        private int kind;
        private int start;
        private int end;
        private int number;

        void addFour(int four) {
            for (int shift = 24; shift >= 0; shift -= 8) {
                if (filled >= 0 && filled < bytes.length) {
                    bytes[filled] = (byte) (four >>> shift);
                    filled++;
                }
            }
        }

        /** Reads a board into the draft and empties the buffer; answers the error, or 0. */
        int readText(int textLength) {
            length = textLength;
            errorAt = NONE;
            end = 0;
            advance();
            boolean read = readHead() && readVertices() && readEdges() && readMoves() && readEnd();
            filled = 0;
            return read ? 0 : error;
        }

        // -- what the grammar tells

        private boolean readHead() {
            if (!readWord("colours")) {
                return false;
            }
            int colours = readNumber(1, MOST_COLOURS);
            if (colours == NONE) {
                return false;
            }
            draft.startEmpty(colours);
            if (atWord("passes")) {
                advance();
                int passes = readNumber(0, MOST_PASSES);
                if (passes == NONE) {
                    return false;
                }
                draft.passes = passes;
            }
            return readSemicolon();
        }

        private boolean readVertices() {
            boolean read = readVertex();
            for (int k = 0; k < MOST_VERTICES && read && atWord("vertex"); k++) {
                read = readVertex();
            }
            return read;
        }

        private boolean readVertex() {
            if (atWord("vertex") && draft.isFull()) {
                return fail(TOO_MANY);
            }
            if (!readWord("vertex")) {
                return false;
            }
            int list = draft.everyColour();
            if (kind == WORD) {
                list = listHere();
                if (list == 0) {
                    return fail(VALUE_ERROR);
                }
                advance();
            }
            draft.addVertex(list);
            return readSemicolon();
        }

        private boolean readEdges() {
            boolean read = true;
            for (int k = 0; k < length && read && atWord("edge"); k++) {
                read = readEdge();
            }
            return read;
        }

        private boolean readEdge() {
            if (!readWord("edge")) {
                return false;
            }
            int one = readNumber(0, draft.vertices - 1);
            if (one == NONE) {
                return false;
            }
            if (kind == NUMBER && number == one) {
                return fail(VALUE_ERROR);
            }
            if (kind == NUMBER && has(draft.neighbours(one), number)) {
                return fail(TWICE);
            }
            int other = readNumber(0, draft.vertices - 1);
            if (other == NONE) {
                return false;
            }
            draft.addEdge(one, other);
            return readSemicolon();
        }

        private boolean readMoves() {
            boolean read = true;
            for (int k = 0; k < length && read && (atWord("lay") || atWord("pass")); k++) {
                read = (atWord("lay") ? readLay() : readPass()) && readSemicolon();
            }
            return read;
        }

        private boolean readLay() {
            if (!readWord("lay")) {
                return false;
            }
            int vertex = readNumber(0, draft.vertices - 1);
            if (vertex == NONE) {
                return false;
            }
            if (kind != WORD) {
                return fail(SYNTAX_ERROR);
            }
            int list = listHere();
            if (Integer.bitCount(list) != 1) {
                return fail(VALUE_ERROR);
            }
            int colour = least(list);
            if (draft.whyNot(vertex, colour) != 0) {
                return fail(REFUSED);
            }
            draft.paint(vertex, colour);
            advance();
            return true;
        }

        private boolean readPass() {
            if (draft.passes == 0) {
                return fail(REFUSED);
            }
            draft.spendPass();
            return readWord("pass");
        }

        private boolean readEnd() {
            return kind == END || fail(SYNTAX_ERROR);
        }

        // -- single tokens

        private boolean readWord(String word) {
            if (!atWord(word)) {
                return fail(SYNTAX_ERROR);
            }
            advance();
            return true;
        }

        /** The number that was read; NONE in case of an error. */
        private int readNumber(int fewest, int most) {
            if (kind != NUMBER) {
                fail(SYNTAX_ERROR);
                return NONE;
            }
            if (number < fewest || number > most) {
                fail(VALUE_ERROR);
                return NONE;
            }
            int read = number;
            advance();
            return read;
        }

        private boolean readSemicolon() {
            if (kind != SEMICOLON) {
                return fail(SYNTAX_ERROR);
            }
            advance();
            return true;
        }

        private boolean atWord(String word) {
            if (kind != WORD || end - start != word.length()) {
                return false;
            }
            for (int k = 0; k < word.length(); k++) {
                if (byteAt(start + k) != word.charAt(k)) {
                    return false;
                }
            }
            return true;
        }

        /** The set that the letters of a word tell; 0 if one is no colour or stands twice. */
        private int listHere() {
            int list = 0;
            for (int k = start; k < end; k++) {
                int colour = byteAt(k) - 'a';
                if (!has(draft.everyColour(), colour) || has(list, colour)) {
                    return 0;
                }
                list |= 1 << colour;
            }
            return list;
        }

        private void advance() {
            start = end;
            while (start < length && byteAt(start) == ' ') {
                start++;
            }
            end = start + 1;
            int first = byteAt(start);
            if (first == NONE) {
                kind = END;
                end = start;
            } else if (isLetter(first)) {
                kind = WORD;
                while (end < length && isLetter(byteAt(end))) {
                    end++;
                }
            } else if (isDigit(first)) {
                kind = NUMBER;
                number = first - '0';
                while (end < length && isDigit(byteAt(end))) {
                    number = Math.min(10 * number + byteAt(end) - '0', LARGE);
                    end++;
                }
            } else {
                kind = first == ';' ? SEMICOLON : OTHER;
            }
        }

        /** The byte, 0 to 255; NONE behind the end of the text. */
        private int byteAt(int index) {
            boolean inside = index >= 0 && index < length && index < bytes.length;
            return inside ? bytes[index] & 255 : NONE;
        }

        private static boolean isLetter(int letter) {
            return letter >= 'a' && letter <= 'z';
        }

        private static boolean isDigit(int letter) {
            return letter >= '0' && letter <= '9';
        }

        private boolean fail(int code) {
            error = code;
            errorAt = start;
            return false;
        }
    }
}
