import java.io.File;
import java.io.IOException;
import java.nio.charset.StandardCharsets;
import java.nio.file.Files;
import java.nio.file.Path;
import java.util.TreeSet;
import java.util.regex.Matcher;
import java.util.regex.Pattern;

/** What README.md tells of the use of the class and of its tests, made and looked up. */
public final class ReadmeTests {
    public static void main(String[] args) throws IOException {
        String readme = Files.readString(Path.of("README.md"), StandardCharsets.UTF_8);
        board(readme);
        blocks(readme);
        errors(readme);
        tests(readme);
        Check.end("ReadmeTests");
    }

    /** A line of the example stands in README.md as the test beside it makes it. */
    private static void line(String readme, String line) {
        Check.due("README.md says " + line, readme.contains("\n" + line), true);
    }

    private static void board(String readme) {
        ColourDuel x = new ColourDuel();
        String text = "colours 2; vertex; vertex; edge 0 1;";
        line(readme, "ColourDuel x = new ColourDuel();");
        line(readme, "String text = \"" + text + "\";");
        line(readme, "int vertices = x.load(text.length());");
        Check.append(x, text);
        Check.due("load", x.load(text.length()), 2);
        line(readme, "int value = x.value();                   // 0: who moves has lost");
        Check.due("value", x.value(), 0);
        line(readme, "int best = x.bestMove();                 // 0: colour 0 on vertex 0");
        Check.due("bestMove", x.bestMove(), 0);
        line(readme, "int parts = x.lay(best / 4, best % 4);   // 1: vertex 1 is free by itself");
        Check.due("lay", x.lay(0, 0), 1);
        line(readme, "int why = x.reason(1, 0);                // 3: a neighbour has this colour");
        Check.due("reason", x.reason(1, 0), 3);
        line(readme, "int moves = x.playOut(20);               // 1: the game is over");
        Check.due("playOut", x.playOut(20), 1);
        line(readme, "int winner = x.count(9);                 // 1");
        Check.due("winner", x.count(9), 1);
        line(readme, "int length = x.writeBoard();             // 6: \"ab/0/0\", byte by byte in writtenByte");
        Check.due("writeBoard", x.writeBoard(), 6);
        Check.due("written", Check.written(x), "ab/0/0");
        line(readme, "int left = x.undo();                     // 2: the lay and the load can still be undone");
        Check.due("undo", x.undo(), 2);
    }

    /** The loop of README.md that hands a text to append. */
    private static void blocks(String readme) {
        ColourDuel x = new ColourDuel();
        String text = "colours 3 passes 2;vertex ab;vertex;vertex c;edge 0 1;lay 1 b;pass;";
        for (int at = 0; at < text.length(); at += 20) {
            int[] word = new int[5];
            for (int k = 0; k < 20; k++) {
                int letter = at + k < text.length() ? text.charAt(at + k) : ' ';
                word[k / 4] = word[k / 4] << 8 | letter;
            }
            x.append(word[0], word[1], word[2], word[3], word[4]);
        }
        line(readme, "for (int at = 0; at < text.length(); at += 20) {     // append takes 20 bytes a call");
        line(readme, "    int[] word = new int[5];                         // four in each int, the highest first");
        line(readme, "    for (int k = 0; k < 20; k++) {");
        line(readme, "        int letter = at + k < text.length() ? text.charAt(at + k) : ' ';");
        line(readme, "        word[k / 4] = word[k / 4] << 8 | letter;");
        line(readme, "    x.append(word[0], word[1], word[2], word[3], word[4]);");
        Check.due("load", x.load(text.length()), 3);
        Check.due("written", Check.written(x), ".b./0/1");
    }

    private static void errors(String readme) {
        String whole = "colours 3 passes 2; vertex ab; vertex; edge 0 1; lay 1 c; pass;";
        Check.due("README.md says " + whole, readme.contains("`" + whole + "`"), true);
        Check.good(whole, 2, ".c/0/1");
        String[] names = {"SYNTAX_ERROR", "VALUE_ERROR", "TWICE", "REFUSED", "TOO_MANY"};
        int[] codes = {ColourDuel.SYNTAX_ERROR, ColourDuel.VALUE_ERROR, ColourDuel.TWICE,
            ColourDuel.REFUSED, ColourDuel.TOO_MANY};
        for (int k = 0; k < names.length; k++) {
            Check.due("README.md names " + names[k],
                    readme.contains("`" + names[k] + "` (" + codes[k] + ")"), true);
        }
    }

    /** The table has a row for each test that .ci/run runs, and for no other. */
    private static void tests(String readme) {
        TreeSet<String> told = new TreeSet<>();
        Matcher rows = Pattern.compile("^\\| `(\\w+)` \\|", Pattern.MULTILINE).matcher(readme);
        while (rows.find()) {
            told.add(rows.group(1));
        }
        TreeSet<String> there = new TreeSet<>();
        String[] names = new File("src/test/java").list();
        for (String name : names == null ? new String[0] : names) {
            if (name.matches("\\w+(Tests|Runs)\\.java")) {
                there.add(name.replace(".java", ""));
            }
        }
        Check.due("the tests that README.md tells of", told, there);
        Check.due("the way to run them", readme.contains("\n    .ci/run\n"), true);
    }
}
