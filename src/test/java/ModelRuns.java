import java.util.Random;

/** Long runs of calls, always the same ones, whose answers the model tells. */
public final class ModelRuns {
    private static final int RUNS = 2500;
    private static final int CALLS = 512;

    private final Random random;
    private final ColourDuel x = new ColourDuel();
    private final Model m = new Model();
    private final int run;
    private int calls = 0;

    private ModelRuns(int run) {
        this.run = run;
        random = new Random(run);
    }

    public static void main(String[] args) {
        for (int run = 0; run < RUNS; run++) {
            new ModelRuns(run).play();
        }
        Check.end("ModelRuns");
    }

    private void play() {
        while (calls < CALLS) {
            if (calls == 0 || random.nextInt(60) == 0) {
                load();
            } else {
                anyCall(random.nextInt(30));
            }
        }
    }

    private void same(String call, Check.Call ours, Check.Call theirs) {
        calls++;
        Check.due("run " + run + " call " + calls + ": " + call,
                Check.outcome(ours), Check.outcome(theirs));
    }

    private void load() {
        String text = random.nextInt(3) == 0 ? spoilt(text()) : text();
        if (random.nextInt(3) > 0 && text.length() > 500) {
            text = text.substring(0, 500);
        }
        for (int block = 0; block < text.length(); block += 20) {
            int[] w = new int[5];
            for (int k = 0; k < 20; k++) {
                int letter = block + k < text.length() ? text.charAt(block + k) : ' ';
                w[k / 4] = w[k / 4] << 8 | letter;
            }
            same("append", () -> x.append(w[0], w[1], w[2], w[3], w[4]), () -> m.append(w));
        }
        int length = random.nextInt(12) == 0 ? text.length() + random.nextInt(40) - 20
                : text.length();
        String told = "load " + length + " of " + text;
        same(told, () -> x.load(length), () -> m.load(length));
        same(told + " errorPosition", () -> x.errorPosition(), () -> m.errorPosition());
    }

    private String text() {
        int colours = 1 + random.nextInt(3);
        int most = colours == 3 ? 7 : 9;
        int n = 1 + random.nextInt(random.nextInt(4) == 0 ? most : 5);
        double dense = random.nextDouble();
        StringBuilder text = new StringBuilder("colours ").append(colours);
        if (random.nextBoolean()) {
            text.append(" passes ").append(random.nextInt(random.nextInt(3) == 0 ? 10 : 3));
        }
        text.append(';');
        for (int v = 0; v < n; v++) {
            text.append("vertex").append(list(colours)).append(';');
        }
        for (int v = 0; v < n; v++) {
            for (int u = 0; u < v; u++) {
                if (random.nextDouble() < dense) {
                    text.append("edge ").append(u).append(' ').append(v).append(';');
                }
            }
        }
        int moves = random.nextInt(3) == 0 ? random.nextInt(4) : 0;
        for (int k = 0; k < moves; k++) {
            text.append(random.nextInt(4) == 0 ? "pass;"
                    : "lay " + random.nextInt(n) + (char) ('a' + random.nextInt(colours)) + ";");
        }
        return text.toString();
    }

    private String list(int colours) {
        StringBuilder list = new StringBuilder(" ");
        for (int c = 0; c < colours; c++) {
            if (random.nextInt(3) > 0) {
                list.insert(random.nextInt(list.length()) + 1, (char) ('a' + c));
            }
        }
        return random.nextBoolean() ? "" : list.toString();
    }

    private String spoilt(String text) {
        StringBuilder spoilt = new StringBuilder(text);
        String[] bits = {";", " ", "a", "c", "d", "0", "1", "9", "10", "vertex;", "edge", "lay ",
            "pass;", "passes 1", "edge 0 1;", "lay 0 a;", "A", "\n", "\u00ff", "\u0000", "z", "-",
            "99999999999999999999", "00"};
        int faults = 1 + random.nextInt(2);
        for (int k = 0; k < faults; k++) {
            int at = random.nextInt(spoilt.length());
            if (random.nextInt(3) > 0) {
                spoilt.insert(at, bits[random.nextInt(bits.length)]);
            } else {
                spoilt.delete(at, Math.min(spoilt.length(), at + 1 + random.nextInt(4)));
            }
        }
        return spoilt.length() == 0 ? ";" : spoilt.toString();
    }

    private void anyCall(int kind) {
        int n = m.count(0);
        int v = random.nextInt(n + 2) - (random.nextInt(4) == 0 ? 1 : 0);
        int c = random.nextInt(m.count(2) + 1) - (random.nextInt(8) == 0 ? 1 : 0);
        int what = random.nextInt(15) - 1;
        switch (kind) {
            case 0: case 1: call("lay", v, c, () -> x.lay(v, c), () -> m.lay(v, c)); break;
            case 2: call("pass", 0, 0, () -> x.pass(), () -> m.pass()); break;
            case 3: play(random.nextInt(26) - 2); break;
            case 4: call("setPasses", what, 0, () -> x.setPasses(what), () -> m.setPasses(what)); break;
            case 5: case 6: call("undo", 0, 0, () -> x.undo(), () -> m.undo()); break;
            case 7: call("save", v - 1, 0, () -> x.save(v - 1), () -> m.save(v - 1)); break;
            case 8: call("restore", v - 1, 0, () -> x.restore(v - 1), () -> m.restore(v - 1)); break;
            case 9: call("falls", v, 0, () -> x.falls(v), () -> m.falls(v)); break;
            case 10: call("valueWithout", v, 0, () -> x.valueWithout(v), () -> m.valueWithout(v)); break;
            case 11: call("winningColours", v, 0, () -> x.winningColours(v), () -> m.winningColours(v)); break;
            case 12: call("meanValue", 0, 0, () -> x.meanValue(), () -> m.meanValue()); break;
            case 13: call("shortest", 0, 0, () -> x.shortest(), () -> m.shortest()); break;
            case 14: call("longest", 0, 0, () -> x.longest(), () -> m.longest()); break;
            case 15: call("bestMove", 0, 0, () -> x.bestMove(), () -> m.bestMove()); break;
            case 16: call("winningMoves", 0, 0, () -> x.winningMoves(), () -> m.winningMoves()); break;
            case 17: call("valueIf", v, c, () -> x.valueIf(v, c), () -> m.valueIf(v, c)); break;
            case 18: call("value", 0, 0, () -> x.value(), () -> m.value()); break;
            case 19: call("writeBoard", 0, 0, () -> x.writeBoard(), () -> m.writeBoard()); break;
            case 20: call("writtenByte", what, 0, () -> x.writtenByte(what), () -> m.writtenByte(what)); break;
            case 21: call("account", v, what, () -> x.account(v, what), () -> m.account(v, what)); break;
            case 22: case 23: moveTold(random.nextInt(m.count(7) + 2) - 1, random.nextInt(6) - 1); break;
            case 24: call("reason", v, c, () -> x.reason(v, c), () -> m.reason(v, c)); break;
            case 25: case 26: call("part", v, what, () -> x.part(v, what), () -> m.part(v, what)); break;
            case 27: call("vertex", v, what, () -> x.vertex(v, what), () -> m.vertex(v, what)); break;
            default: call("count", what, 0, () -> x.count(what), () -> m.count(what)); break;
        }
    }

    private void play(int most) {
        call("playOut", most, 0, () -> x.playOut(most), () -> m.playOut(most));
    }

    private void moveTold(int move, int what) {
        call("move", move, what, () -> x.move(move, what), () -> m.move(move, what));
    }

    private void call(String name, int a, int b, Check.Call ours, Check.Call theirs) {
        same(name + "(" + a + ", " + b + ")", ours, theirs);
    }
}
