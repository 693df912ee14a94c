import java.io.IOException;
import java.nio.file.Files;
import java.nio.file.Path;
import java.util.List;

/** Makes the calls of README.md's example: each must stand there, with the answer that the class gives. */
public final class ReadmeTest {
    private static List<String> readme;

    public static void main(String[] args) throws IOException {
        readme = Files.readAllLines(Path.of("README.md"));
        TestPatterns p = new TestPatterns();
        int and = p.gate(0, 0, 1);
        answered("int and = p.gate(0, 0, 1);", and);
        int out = p.gate(1, and, 2);
        answered("int out = p.gate(1, and, 2);", out);
        answered("p.watch(out, true);", p.watch(out, true));
        answered("p.lines();", p.lines());
        answered("p.watched();", p.watched());
        answered("p.value(out, 3);", p.value(out, 3));
        answered("p.ones(out);", p.ones(out));
        answered("p.shows(3, and, 0);", p.shows(3, and, 0));
        answered("p.test(and, 0);", p.test(and, 0));
        answered("p.testFrom(and, 0, 4);", p.testFrom(and, 0, 4));
        answered("p.test(3, 0);", p.test(3, 0));
        answered("p.hidden(0);", p.hidden(0));
        answered("p.shownBy(1);", p.shownBy(1));
        answered("p.bestVector();", p.bestVector());
        answered("p.alike(0, 0, and, 0);", p.alike(0, 0, and, 0));
        answered("p.drop();", p.drop());
        Due.equal("calls on p in README.md that have an answer", callsInReadme(), 16);
        Due.end();
    }

    private static void answered(String call, Object answer) {
        String told = toldAnswer(call);
        Due.equal("README.md tells " + told + " for " + call + " which answers " + answer + ":",
                told.equals(String.valueOf(answer)), true);
    }

    /** What stands between "//" and ":" behind the call. */
    private static String toldAnswer(String call) {
        for (String line : readme) {
            int comment = line.indexOf("// ");
            int colon = line.indexOf(':', comment + 1);
            if (line.startsWith(call) && comment >= 0 && colon >= 0) {
                return line.substring(comment + 3, colon);
            }
        }
        return "nothing";
    }

    // A call that is added to the example alone is not looked at above, so they are counted.
    private static long callsInReadme() {
        return readme.stream().filter(line -> line.matches("(int \\w+ = )?p\\.\\w+\\(.*\\);.*")).count();
    }
}
