import java.util.ArrayList;
import java.util.Arrays;
import java.util.HashMap;
import java.util.List;
import java.util.Map;
import java.util.NoSuchElementException;
import java.util.TreeSet;
import java.util.regex.Matcher;
import java.util.regex.Pattern;

/**
 * The document once more, written as plainly as can be and quite unlike the class: boards as
 * rows of vertices, small boards played out whole (passes among the moves) without parts.
 */
final class Model {
    private static final int GONE = -2;
    private static final int WHOLE = 5;

    static final class State {
        int colours = 1;
        int n = 1;
        boolean[][] edge = new boolean[1][1];
        String[] lists = {"a"};
        int[] colour = {-1};
        int[] ban = {-1};
        int passes = 0;
        List<int[]> moves = new ArrayList<>();

        State copy() {
            State s = new State();
            s.colours = colours;
            s.n = n;
            s.edge = new boolean[n][n];
            for (int v = 0; v < n; v++) {
                s.edge[v] = edge[v].clone();
            }
            s.lists = lists.clone();
            s.colour = colour.clone();
            s.ban = ban.clone();
            s.passes = passes;
            s.moves = new ArrayList<>(moves);
            return s;
        }

        State behind(int v, int c) {
            State s = copy();
            List<Integer> part = partOf(v);
            s.colour[v] = c;
            for (int u : part) {
                s.ban[u] = c;
            }
            return s;
        }

        State without(int v) {
            State s = copy();
            s.colour[v] = GONE;
            return s;
        }

        State alone(List<Integer> part) {
            State s = copy();
            s.passes = 0;
            for (int v = 0; v < n; v++) {
                if (s.colour[v] == -1 && !part.contains(v)) {
                    s.colour[v] = GONE;
                }
            }
            return s;
        }

        List<Integer> partOf(int v) {
            TreeSet<Integer> found = new TreeSet<>();
            gather(v, found);
            return new ArrayList<>(found);
        }

        private void gather(int v, TreeSet<Integer> found) {
            if (colour[v] == -1 && found.add(v)) {
                for (int u = 0; u < n; u++) {
                    if (edge[v][u]) {
                        gather(u, found);
                    }
                }
            }
        }

        List<List<Integer>> parts() {
            List<List<Integer>> parts = new ArrayList<>();
            for (int v = 0; v < n; v++) {
                if (colour[v] == -1 && partOf(v).get(0) == v) {
                    parts.add(partOf(v));
                }
            }
            return parts;
        }

        int why(int v, int c) {
            if (colour[v] != -1) {
                return 1;
            }
            if (lists[v].indexOf('a' + c) < 0) {
                return 2;
            }
            for (int u = 0; u < n; u++) {
                if (edge[u][v] && colour[u] == c) {
                    return 3;
                }
            }
            return ban[v] == c && partOf(v).size() > 1 ? 4 : 0;
        }

        List<int[]> lays() {
            List<int[]> lays = new ArrayList<>();
            for (int v = 0; v < n; v++) {
                for (int c = 0; c < colours; c++) {
                    if (why(v, c) == 0) {
                        lays.add(new int[] {v, c});
                    }
                }
            }
            return lays;
        }

        boolean over() {
            return passes == 0 && lays().isEmpty();
        }

        int edgesAmong(List<Integer> some) {
            int edges = 0;
            for (int v : some) {
                for (int u : some) {
                    edges += u < v && edge[u][v] ? 1 : 0;
                }
            }
            return edges;
        }

        void makeLay(int v, int c) {
            int pieces = 0;
            List<Integer> rest = partOf(v);
            State next = behind(v, c);
            for (List<Integer> part : next.parts()) {
                pieces += rest.contains(part.get(0)) ? 1 : 0;
            }
            colour = next.colour;
            ban = next.ban;
            moves.add(new int[] {moves.size() % 2, v, c, parts().size(), pieces});
        }

        void makePass() {
            passes--;
            moves.add(new int[] {moves.size() % 2, -1, -1, parts().size(), 1});
        }

        String key() {
            StringBuilder key = new StringBuilder();
            for (int v = 0; v < n; v++) {
                key.append(colour[v]).append(colour[v] == -1 ? ban[v] : 0).append(' ');
            }
            return key.append(passes).toString();
        }
    }

    private State now = new State();
    private final List<State> past = new ArrayList<>();
    private final State[] slots = new State[2];
    private String buffer = "";
    private int error = -1;
    private String written = "";
    private final Map<String, int[]> known = new HashMap<>();

    // ---- values

    /** The value, the longest and the shortest game of a position, all moves played. */
    private int[] played(State s) {
        int[] answer = known.get(s.key());
        if (answer != null) {
            return answer;
        }
        List<State> next = new ArrayList<>();
        for (int[] lay : s.lays()) {
            next.add(s.behind(lay[0], lay[1]));
        }
        if (s.passes > 0) {
            State passed = s.copy();
            passed.passes--;
            next.add(passed);
        }
        TreeSet<Integer> values = new TreeSet<>();
        int longest = 0;
        int shortest = next.isEmpty() ? 0 : 1000;
        for (State t : next) {
            int[] behind = played(t);
            values.add(behind[0]);
            longest = Math.max(longest, behind[1] + 1);
            shortest = Math.min(shortest, behind[2] + 1);
        }
        int value = 0;
        while (values.contains(value)) {
            value++;
        }
        answer = new int[] {value, longest, shortest};
        known.put(s.key(), answer);
        return answer;
    }

    private int[] answers(State s) {
        if (s.n <= WHOLE) {
            return played(s);
        }
        int[] sum = {s.passes % 2, s.passes, s.passes};
        for (List<Integer> part : s.parts()) {
            int[] one = played(s.alone(part));
            sum[0] ^= one[0];
            sum[1] += one[1];
            sum[2] += one[2];
        }
        return sum;
    }

    private State passed() {
        State s = now.copy();
        s.passes--;
        return s;
    }

    private int best() {
        int best = -1;
        int longest = -1;
        List<int[]> lays = now.lays();
        for (int k = 0; k <= lays.size(); k++) {
            if (k == lays.size() && now.passes == 0) {
                continue;
            }
            State behind = k < lays.size()
                    ? now.behind(lays.get(k)[0], lays.get(k)[1]) : passed();
            int code = k < lays.size() ? 4 * lays.get(k)[0] + lays.get(k)[1] : 100;
            int[] answer = answers(behind);
            if (answer[0] == 0) {
                return code;
            }
            if (answer[1] > longest) {
                longest = answer[1];
                best = code;
            }
        }
        return best;
    }

    // ---- the face

    int append(int... words) {
        if (buffer.length() + 20 > 500) {
            throw new IllegalStateException();
        }
        for (int word : words) {
            for (int k = 3; k >= 0; k--) {
                buffer += (char) (word >>> 8 * k & 255);
            }
        }
        return buffer.length();
    }

    int load(int length) {
        if (length < 0 || length > buffer.length()) {
            throw new IllegalArgumentException();
        }
        String text = buffer.substring(0, length);
        buffer = "";
        error = -1;
        State read = new State();
        int[] fault = new Parser(text, read).parse();
        if (fault != null) {
            error = fault[1];
            return fault[0];
        }
        change();
        known.clear();
        now = read;
        return now.n;
    }

    int errorPosition() {
        return error;
    }

    int count(int what) {
        int stuck = 0;
        for (int v = 0; v < now.n; v++) {
            stuck += now.colour[v] == -1 && vertex(v, 2) == 0 ? 1 : 0;
        }
        List<Integer> all = new ArrayList<>();
        int free = 0;
        for (int v = 0; v < now.n; v++) {
            all.add(v);
            free += now.colour[v] == -1 ? 1 : 0;
        }
        int turn = now.moves.size() % 2;
        int[] answers = {now.n, now.edgesAmong(all), now.colours, now.passes, free,
            now.parts().size(), turn, now.moves.size(), now.over() ? 1 : 0,
            now.over() ? 1 - turn : -1, now.lays().size(), stuck, now.passes % 2};
        return pick(answers, what);
    }

    private int pick(int[] answers, int what) {
        if (what < 0 || what >= answers.length) {
            throw new IllegalArgumentException();
        }
        return answers[what];
    }

    private void need(boolean there) {
        if (!there) {
            throw new IndexOutOfBoundsException();
        }
    }

    private void needPair(int v, int c) {
        need(v >= 0 && v < now.n && c >= 0 && c < now.colours);
    }

    int vertex(int v, int what) {
        needPair(v, 0);
        int list = 0;
        int open = 0;
        int near = 0;
        int freeNear = 0;
        for (int c = 0; c < now.colours; c++) {
            list += now.lists[v].indexOf('a' + c) >= 0 ? 1 << c : 0;
            open += now.why(v, c) == 0 ? 1 << c : 0;
        }
        for (int u = 0; u < now.n; u++) {
            near += now.edge[u][v] ? 1 : 0;
            freeNear += now.edge[u][v] && now.colour[u] == -1 ? 1 : 0;
        }
        int part = now.colour[v] == -1 ? now.parts().indexOf(now.partOf(v)) : -1;
        return pick(new int[] {now.colour[v], list, open, near, part, freeNear}, what);
    }

    int reason(int v, int c) {
        needPair(v, c);
        return now.why(v, c);
    }

    int part(int p, int what) {
        need(p >= 0 && p < now.parts().size());
        List<Integer> part = now.parts().get(p);
        int pairs = 0;
        for (int[] lay : now.lays()) {
            pairs += part.contains(lay[0]) ? 1 : 0;
        }
        int[] game = played(now.alone(part));
        return pick(new int[] {part.size(), part.get(0), now.ban[part.get(0)],
            now.edgesAmong(part), pairs, game[0], game[1], game[2]}, what);
    }

    int value() {
        return answers(now)[0];
    }

    int valueIf(int v, int c) {
        needPair(v, c);
        if (now.why(v, c) != 0) {
            throw new NoSuchElementException();
        }
        return answers(now.behind(v, c))[0];
    }

    int winningMoves() {
        int wins = now.passes > 0 && answers(passed())[0] == 0 ? 1 : 0;
        for (int[] lay : now.lays()) {
            wins += valueIf(lay[0], lay[1]) == 0 ? 1 : 0;
        }
        return wins;
    }

    int bestMove() {
        if (now.over()) {
            throw new NoSuchElementException();
        }
        return best();
    }

    int longest() {
        return answers(now)[1];
    }

    int shortest() {
        return answers(now)[2];
    }

    float meanValue() {
        int sum = 0;
        for (List<Integer> part : now.parts()) {
            sum += played(now.alone(part))[0];
        }
        return now.parts().isEmpty() ? 0f : (float) sum / (float) now.parts().size();
    }

    int winningColours(int v) {
        needPair(v, 0);
        int set = 0;
        for (int c = 0; c < now.colours; c++) {
            set += now.why(v, c) == 0 && valueIf(v, c) == 0 ? 1 << c : 0;
        }
        return set;
    }

    private void needFree(int v) {
        needPair(v, 0);
        if (now.colour[v] != -1) {
            throw new NoSuchElementException();
        }
    }

    int falls(int v) {
        needFree(v);
        return now.without(v).parts().size() - now.parts().size() + 1;
    }

    int valueWithout(int v) {
        needFree(v);
        return answers(now.without(v))[0];
    }

    private void change() {
        past.add(now.copy());
        if (past.size() > 8) {
            past.remove(0);
        }
    }

    int lay(int v, int c) {
        needPair(v, c);
        if (now.why(v, c) != 0) {
            throw new IllegalStateException();
        }
        change();
        now.makeLay(v, c);
        return now.parts().size();
    }

    int pass() {
        if (now.passes == 0) {
            throw new IllegalStateException();
        }
        change();
        now.makePass();
        return now.passes;
    }

    int playOut(int most) {
        if (most < 1 || most > 20) {
            throw new IllegalArgumentException();
        }
        change();
        int made = 0;
        for (; made < most && !now.over(); made++) {
            int code = best();
            if (code == 100) {
                now.makePass();
            } else {
                now.makeLay(code / 4, code % 4);
            }
        }
        return made;
    }

    int setPasses(int passes) {
        if (passes < 0 || passes > 9) {
            throw new IllegalArgumentException();
        }
        change();
        int old = now.passes;
        now.passes = passes;
        return old;
    }

    int move(int move, int what) {
        need(move >= 0 && move < now.moves.size());
        return pick(Arrays.copyOf(now.moves.get(move), 4), what);
    }

    int account(int player, int what) {
        need(player == 0 || player == 1);
        int[] tally = new int[5];
        TreeSet<Integer> colours = new TreeSet<>();
        for (int[] move : now.moves) {
            if (move[0] == player) {
                tally[move[1] == -1 ? 1 : 0]++;
                tally[2] += move[4] > 1 ? 1 : 0;
                tally[3] += move[4] == 0 ? 1 : 0;
                if (move[2] != -1) {
                    colours.add(move[2]);
                }
            }
        }
        tally[4] = colours.size();
        return pick(tally, what);
    }

    int writeBoard() {
        StringBuilder text = new StringBuilder();
        for (int c : now.colour) {
            text.append(c == -1 ? "." : String.valueOf((char) ('a' + c)));
        }
        text.append('/').append(now.moves.size() % 2).append('/').append(now.passes);
        written = text.toString();
        return written.length();
    }

    int writtenByte(int index) {
        need(index >= 0 && index < written.length());
        return written.charAt(index);
    }

    int undo() {
        if (past.isEmpty()) {
            throw new IllegalStateException();
        }
        now = past.remove(past.size() - 1);
        known.clear();
        return past.size();
    }

    int save(int slot) {
        need(slot == 0 || slot == 1);
        slots[slot] = now.copy();
        return now.moves.size();
    }

    int restore(int slot) {
        need(slot == 0 || slot == 1);
        if (slots[slot] == null) {
            throw new IllegalStateException();
        }
        change();
        now = slots[slot].copy();
        known.clear();
        return now.moves.size();
    }

    // ---- texts

    /** Reads by taking one token after the other off the text; an error ends it by a throw. */
    static final class Parser {
        private static final Pattern TOKEN = Pattern.compile(" *([a-z]+|[0-9]+|;)?", Pattern.DOTALL);

        private static final class Fault extends RuntimeException {
            private static final long serialVersionUID = 1;
            final int code;
            final int position;

            Fault(int code, int position) {
                this.code = code;
                this.position = position;
            }
        }

        private final String text;
        private final State state;
        private int position = 0;
        private String token = "";
        private int tokenAt = 0;

        Parser(String text, State state) {
            this.text = text;
            this.state = state;
        }

        int[] parse() {
            try {
                take();
                board();
                return null;
            } catch (Fault fault) {
                return new int[] {fault.code, fault.position};
            }
        }

        private void take() {
            Matcher m = TOKEN.matcher(text).region(position, text.length());
            m.lookingAt();
            token = m.group(1) == null ? "" : m.group(1);
            tokenAt = m.group(1) == null ? m.end() : m.start(1);
            position = m.end();
        }

        private void expect(String wanted) {
            if (!token.equals(wanted)) {
                throw new Fault(-2, tokenAt);
            }
            take();
        }

        private int number(int least, int most) {
            if (!token.matches("[0-9]+")) {
                throw new Fault(-2, tokenAt);
            }
            java.math.BigInteger big = new java.math.BigInteger(token);
            if (big.compareTo(java.math.BigInteger.valueOf(least)) < 0
                    || big.compareTo(java.math.BigInteger.valueOf(most)) > 0) {
                throw new Fault(-3, tokenAt);
            }
            take();
            return big.intValue();
        }

        private void board() {
            expect("colours");
            state.colours = number(1, 3);
            if (token.equals("passes")) {
                take();
                state.passes = number(0, 9);
            }
            expect(";");
            List<String> lists = new ArrayList<>();
            do {
                lists.add(vertex(lists.size()));
                expect(";");
            } while (token.equals("vertex"));
            state.n = lists.size();
            state.lists = lists.toArray(new String[0]);
            state.edge = new boolean[state.n][state.n];
            state.colour = new int[state.n];
            state.ban = new int[state.n];
            Arrays.fill(state.colour, -1);
            Arrays.fill(state.ban, -1);
            while (token.equals("edge")) {
                edge();
                expect(";");
            }
            while (token.equals("lay") || token.equals("pass")) {
                move();
                expect(";");
            }
            if (!token.isEmpty() || tokenAt != text.length()) {
                throw new Fault(-2, tokenAt);
            }
        }

        private String vertex(int before) {
            if (token.equals("vertex")
                    && (before == 9 || Math.pow(state.colours + 1, before + 1) > 20000)) {
                throw new Fault(-6, tokenAt);
            }
            expect("vertex");
            String all = "abc".substring(0, state.colours);
            if (!token.matches("[a-z]+")) {
                return all;
            }
            String list = token;
            if (!list.matches("[" + all + "]+") || list.matches(".*(.).*\\1.*")) {
                throw new Fault(-3, tokenAt);
            }
            take();
            return list;
        }

        private void edge() {
            expect("edge");
            int one = number(0, state.n - 1);
            int at = tokenAt;
            int other = number(0, state.n - 1);
            if (one == other) {
                throw new Fault(-3, at);
            }
            if (state.edge[one][other]) {
                throw new Fault(-4, at);
            }
            state.edge[one][other] = true;
            state.edge[other][one] = true;
        }

        private void move() {
            if (token.equals("pass")) {
                if (state.passes == 0) {
                    throw new Fault(-5, tokenAt);
                }
                take();
                state.makePass();
                return;
            }
            expect("lay");
            int v = number(0, state.n - 1);
            if (!token.matches("[a-z]+")) {
                throw new Fault(-2, tokenAt);
            }
            if (token.length() != 1 || token.charAt(0) >= 'a' + state.colours) {
                throw new Fault(-3, tokenAt);
            }
            if (state.why(v, token.charAt(0) - 'a') != 0) {
                throw new Fault(-5, tokenAt);
            }
            state.makeLay(v, token.charAt(0) - 'a');
            take();
        }
    }
}
