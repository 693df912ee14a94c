/**
 * Looks for inputs that show faults in a small circuit.
 *
 * A set of input vectors is held as one int, bit k for vector k, so that a line's values with
 * all 32 vectors are one int, its table, and a gate is worked out for all of them at once.
 */
public final class TestPatterns {
    public static final int NONE = -1;
    public static final int FULL = -2;

    private static final int INPUTS = 5;
    private static final int MOST_LINES = 16;
    private static final int VECTORS = 32;

    private static final int AND = 0;
    private static final int OR = 1;
    private static final int XOR = 2;
    private static final int NAND = 3;
    private static final int NOR = 4;
    private static final int NOT = 5;

    // Indexed by line; the entries of the inputs are not used.
    private final int[] kinds = new int[MOST_LINES];
    private final int[] firstReads = new int[MOST_LINES];
    private final int[] secondReads = new int[MOST_LINES];

    // A gate reads only lines before it, so a line's faultless table never changes once it is there.
    private final int[] soundTables = new int[MOST_LINES];

    // Room for vectorsShowing alone: it keeps nothing from one call to the next.
    private final int[] faultyTables = new int[MOST_LINES];

    private int lineCount;
    private int watchedLines;

    public TestPatterns() {
        // Bit k of table i is bit i of k.
        soundTables[0] = 0xAAAAAAAA;
        soundTables[1] = 0xCCCCCCCC;
        soundTables[2] = 0xF0F0F0F0;
        soundTables[3] = 0xFF00FF00;
        soundTables[4] = 0xFFFF0000;
        lineCount = INPUTS;
        watchedLines = 0;
    }

    public int gate(int kind, int x, int y) {
        if (kind < AND || kind > NOT || !isLine(x)) {
            return NONE;
        }
        if (kind != NOT && !isLine(y)) {
            return NONE;
        }
        if (lineCount == MOST_LINES) {
            return FULL;
        }
        int line = lineCount;
        // The y of a NOT may be any number, and what is kept here is used as an index.
        int second = kind == NOT ? x : y;
        kinds[line] = kind;
        firstReads[line] = x;
        secondReads[line] = second;
        soundTables[line] = gateTable(kind, soundTables[x], soundTables[second]);
        lineCount = line + 1;
        return line;
    }

    public int drop() {
        if (lineCount == INPUTS) {
            return NONE;
        }
        lineCount--;
        watchedLines &= ~(1 << lineCount);
        return lineCount;
    }

    public boolean watch(int line, boolean on) {
        if (!isLine(line)) {
            return false;
        }
        if (on) {
            watchedLines |= 1 << line;
        } else {
            watchedLines &= ~(1 << line);
        }
        return true;
    }

    public int lines() {
        return lineCount;
    }

    public int watched() {
        return watchedLines;
    }

    public int value(int line, int vector) {
        if (!isLine(line) || !isVector(vector)) {
            return NONE;
        }
        return (soundTables[line] >>> vector) & 1;
    }

    public boolean shows(int vector, int line, int v) {
        if (!isVector(vector) || !isFault(line, v)) {
            return false;
        }
        int showing = vectorsShowing(line, v);
        return hasBit(showing, vector);
    }

    public int test(int line, int v) {
        return testFrom(line, v, 0);
    }

    public int testFrom(int line, int v, int from) {
        if (!isFault(line, v)) {
            return NONE;
        }
        int showing = vectorsShowing(line, v);
        int start = from < 0 ? 0 : from;
        for (int vector = start; vector < VECTORS; vector++) {
            if (hasBit(showing, vector)) {
                return vector;
            }
        }
        return NONE;
    }

    public int hidden(int v) {
        if (!isStuckValue(v)) {
            return 0;
        }
        int hiddenLines = 0;
        for (int line = 0; line < lineCount; line++) {
            if (vectorsShowing(line, v) == 0) {
                hiddenLines |= 1 << line;
            }
        }
        return hiddenLines;
    }

    public int shownBy(int vector) {
        if (!isVector(vector)) {
            return NONE;
        }
        int count = 0;
        for (int line = 0; line < lineCount; line++) {
            for (int v = 0; v <= 1; v++) {
                int showing = vectorsShowing(line, v);
                count += (showing >>> vector) & 1;
            }
        }
        return count;
    }

    public int bestVector() {
        int best = 0;
        int most = shownBy(0);
        for (int vector = 1; vector < VECTORS; vector++) {
            int count = shownBy(vector);
            if (count > most) {
                best = vector;
                most = count;
            }
        }
        return best;
    }

    public boolean alike(int a, int v, int b, int w) {
        if (!isFault(a, v) || !isFault(b, w)) {
            return false;
        }
        return vectorsShowing(a, v) == vectorsShowing(b, w);
    }

    public int ones(int line) {
        if (!isLine(line)) {
            return NONE;
        }
        int count = 0;
        for (int vector = 0; vector < VECTORS; vector++) {
            count += (soundTables[line] >>> vector) & 1;
        }
        return count;
    }

    private boolean isLine(int line) {
        return line >= 0 && line < lineCount;
    }

    private boolean isFault(int line, int v) {
        return isLine(line) && isStuckValue(v);
    }

    private static boolean isStuckValue(int v) {
        return v == 0 || v == 1;
    }

    private static boolean isVector(int vector) {
        return vector >= 0 && vector < VECTORS;
    }

    private static boolean hasBit(int bits, int place) {
        return ((bits >>> place) & 1) == 1;
    }

    private int vectorsShowing(int stuckLine, int v) {
        int showing = 0;
        for (int line = 0; line < lineCount; line++) {
            // -v is 0 for 0 and all ones for 1: the table of a line that never changes.
            faultyTables[line] = line == stuckLine ? -v : tableBesideFault(line);
            if (hasBit(watchedLines, line)) {
                showing |= faultyTables[line] ^ soundTables[line];
            }
        }
        return showing;
    }

    private int tableBesideFault(int line) {
        if (line < INPUTS) {
            return soundTables[line];
        }
        return gateTable(kinds[line], faultyTables[firstReads[line]], faultyTables[secondReads[line]]);
    }

    private static int gateTable(int kind, int x, int y) {
        switch (kind) {
            case AND:
                return x & y;
            case OR:
                return x | y;
            case XOR:
                return x ^ y;
            case NAND:
                return ~(x & y);
            case NOR:
                return ~(x | y);
            default:
                return ~x;
        }
    }
}
