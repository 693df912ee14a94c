import java.util.ArrayList;
import java.util.List;

/**
 * Promise 16: "a call that is refused (by a code below 0 that is named, or by false) changes
 * nothing." Every kind of refused call is made on circuits from no gate to full; all answers after
 * it are compared with those of a circuit that was built the same way and met no refused call.
 */
public final class RefusedTest {
    private static final int NONE = -1;
    private static final int FULL = -2;
    private static final int LEAST = Integer.MIN_VALUE;
    private static final int GREATEST = Integer.MAX_VALUE;
    private static final int[] NO_VECTORS = {-1, 32, LEAST, GREATEST};
    private static final int[] NO_VALUES = {-1, 2, LEAST, GREATEST};

    private interface Call {
        long on(TestPatterns p);
    }

    private record Refused(String name, long due, Call call) {
    }

    public static void main(String[] args) {
        for (int lines = 5; lines <= 16; lines++) {
            eachRefusedCallAlone(lines);
            allRefusedCallsInARow(lines);
        }
        Due.end();
    }

    private static void eachRefusedCallAlone(int lines) {
        long[] due = answersAfter(lines, List.of());
        for (Refused refused : refusedCalls(lines)) {
            String name = refused.name() + " in " + lines + " lines";
            Due.equal("16: " + name, refused.call().on(circuit(lines)), refused.due());
            compare(name, answersAfter(lines, List.of(refused)), due);
        }
    }

    private static void allRefusedCallsInARow(int lines) {
        long[] due = answersAfter(lines, List.of());
        compare("all refused calls in " + lines + " lines", answersAfter(lines, refusedCalls(lines)), due);
    }

    private static void compare(String name, long[] got, long[] due) {
        for (int i = 0; i < due.length; i++) {
            Due.equal("16: after " + name + ", answer " + i, got[i], due[i]);
        }
    }

    /** A circuit with gates of all kinds, where some inputs and some gates are watched. */
    private static TestPatterns circuit(int lines) {
        TestPatterns p = new TestPatterns();
        for (int line = 5; line < lines; line++) {
            p.gate((line * 5 + 2) % 6, line - 1, (line * 3) % 5);
        }
        for (int line = 1; line < lines; line += 3) {
            p.watch(line, true);
        }
        p.watch(lines - 1, true);
        return p;
    }

    private static TestPatterns circuitAfter(int lines, List<Refused> calls) {
        TestPatterns p = circuit(lines);
        for (Refused refused : calls) {
            refused.call().on(p);
        }
        return p;
    }

    /** All there is to see. Each line is asked on objects of its own, for the sake of the 512 calls. */
    private static long[] answersAfter(int lines, List<Refused> calls) {
        List<Long> answers = new ArrayList<>();
        for (int line = 0; line < lines; line++) {
            askOfLine(answers, circuitAfter(lines, calls), line);
            askOfFaults(answers, circuitAfter(lines, calls), lines, line);
        }
        askOfAll(answers, circuitAfter(lines, calls));
        askWhatComesNext(answers, circuitAfter(lines, calls));
        return answers.stream().mapToLong(Long::longValue).toArray();
    }

    private static void askOfLine(List<Long> answers, TestPatterns p, int line) {
        answers.add((long) p.ones(line));
        for (int vector = 0; vector < 32; vector++) {
            answers.add((long) p.value(line, vector));
            answers.add(p.shows(vector, line, 0) ? 1L : 0L);
            answers.add(p.shows(vector, line, 1) ? 1L : 0L);
        }
    }

    private static void askOfFaults(List<Long> answers, TestPatterns p, int lines, int line) {
        for (int v = 0; v <= 1; v++) {
            answers.add((long) p.test(line, v));
            answers.add((long) p.testFrom(line, v, 1));
            answers.add((long) p.testFrom(line, v, 16));
            for (int other = 0; other < lines; other++) {
                answers.add(p.alike(line, v, other, 0) ? 1L : 0L);
                answers.add(p.alike(line, v, other, 1) ? 1L : 0L);
            }
        }
    }

    private static void askOfAll(List<Long> answers, TestPatterns p) {
        answers.add((long) p.lines());
        answers.add((long) p.watched());
        answers.add((long) p.hidden(0));
        answers.add((long) p.hidden(1));
        answers.add((long) p.bestVector());
        for (int vector = 0; vector < 32; vector++) {
            answers.add((long) p.shownBy(vector));
        }
    }

    /** A gate more and then drops, so that what is kept for lines that are not there is seen too. */
    private static void askWhatComesNext(List<Long> answers, TestPatterns p) {
        answers.add((long) p.gate(2, 0, 1));
        answers.add((long) p.watched());
        for (int drops = 0; drops < 12; drops++) {
            answers.add((long) p.drop());
            answers.add((long) p.watched());
        }
        answers.add((long) p.gate(0, 3, 4));
        answers.add((long) p.watched());
        answers.add((long) p.ones(5));
    }

    private static List<Refused> refusedCalls(int lines) {
        List<Refused> calls = new ArrayList<>();
        addBuilding(calls, lines);
        for (int line : new int[] {-1, lines, LEAST, GREATEST, 32, 31 + lines}) {
            addOfALine(calls, line);
        }
        for (int vector : NO_VECTORS) {
            addOfAVector(calls, vector);
        }
        for (int v : NO_VALUES) {
            addOfAValue(calls, v);
        }
        calls.add(new Refused("testFrom(0, 0, 32)", NONE, p -> p.testFrom(0, 0, 32)));
        calls.add(new Refused("testFrom(1, 1, " + GREATEST + ")", NONE, p -> p.testFrom(1, 1, GREATEST)));
        addOfAFaultNotShown(calls, lines);
        return calls;
    }

    private static void addBuilding(List<Refused> calls, int lines) {
        for (int kind : new int[] {-1, 6, LEAST, GREATEST}) {
            calls.add(new Refused("gate(" + kind + ", 0, 1)", NONE, p -> p.gate(kind, 0, 1)));
        }
        if (lines == 5) {
            calls.add(new Refused("drop()", NONE, p -> p.drop()));
        }
        if (lines == 16) {
            for (int kind = 0; kind <= 5; kind++) {
                int full = kind;
                calls.add(new Refused("gate(" + full + ", 0, 1)", FULL, p -> p.gate(full, 0, 1)));
            }
            calls.add(new Refused("gate(5, 15, -1)", FULL, p -> p.gate(5, 15, -1)));
        }
    }

    private static void addOfALine(List<Refused> calls, int line) {
        calls.add(new Refused("gate(1, " + line + ", 0)", NONE, p -> p.gate(1, line, 0)));
        calls.add(new Refused("gate(1, 0, " + line + ")", NONE, p -> p.gate(1, 0, line)));
        calls.add(new Refused("gate(5, " + line + ", 0)", NONE, p -> p.gate(5, line, 0)));
        calls.add(new Refused("watch(" + line + ", true)", 0, p -> p.watch(line, true) ? 1 : 0));
        calls.add(new Refused("watch(" + line + ", false)", 0, p -> p.watch(line, false) ? 1 : 0));
        calls.add(new Refused("value(" + line + ", 0)", NONE, p -> p.value(line, 0)));
        calls.add(new Refused("shows(0, " + line + ", 1)", 0, p -> p.shows(0, line, 1) ? 1 : 0));
        calls.add(new Refused("test(" + line + ", 1)", NONE, p -> p.test(line, 1)));
        calls.add(new Refused("testFrom(" + line + ", 1, 0)", NONE, p -> p.testFrom(line, 1, 0)));
        calls.add(new Refused("alike(" + line + ", 1, 0, 1)", 0, p -> p.alike(line, 1, 0, 1) ? 1 : 0));
        calls.add(new Refused("alike(0, 1, " + line + ", 1)", 0, p -> p.alike(0, 1, line, 1) ? 1 : 0));
        calls.add(new Refused("ones(" + line + ")", NONE, p -> p.ones(line)));
    }

    private static void addOfAVector(List<Refused> calls, int vector) {
        calls.add(new Refused("value(0, " + vector + ")", NONE, p -> p.value(0, vector)));
        calls.add(new Refused("shows(" + vector + ", 1, 0)", 0, p -> p.shows(vector, 1, 0) ? 1 : 0));
        calls.add(new Refused("shownBy(" + vector + ")", NONE, p -> p.shownBy(vector)));
    }

    private static void addOfAValue(List<Refused> calls, int v) {
        calls.add(new Refused("shows(0, 1, " + v + ")", 0, p -> p.shows(0, 1, v) ? 1 : 0));
        calls.add(new Refused("test(1, " + v + ")", NONE, p -> p.test(1, v)));
        calls.add(new Refused("testFrom(1, " + v + ", 0)", NONE, p -> p.testFrom(1, v, 0)));
        calls.add(new Refused("hidden(" + v + ")", 0, p -> p.hidden(v)));
        calls.add(new Refused("alike(1, " + v + ", 1, 0)", 0, p -> p.alike(1, v, 1, 0) ? 1 : 0));
        calls.add(new Refused("alike(1, 0, 1, " + v + ")", 0, p -> p.alike(1, 0, 1, v) ? 1 : 0));
    }

    private static void addOfAFaultNotShown(List<Refused> calls, int lines) {
        // Line 1 is 1 with vector 31, so that vector never shows it stuck at 1.
        calls.add(new Refused("testFrom(1, 1, 31)", NONE, p -> p.testFrom(1, 1, 31)));
        // The circuit does not watch line 2, and no gate before line 14 uses it (line 9 is a NOT).
        if (lines <= 14) {
            calls.add(new Refused("test(2, 0)", NONE, p -> p.test(2, 0)));
            calls.add(new Refused("test(2, 1)", NONE, p -> p.test(2, 1)));
            calls.add(new Refused("testFrom(2, 0, 0)", NONE, p -> p.testFrom(2, 0, 0)));
        }
    }
}
