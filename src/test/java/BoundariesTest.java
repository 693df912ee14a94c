/**
 * One method for each sentence of the document that names a boundary case: too small, too large,
 * empty, full, none there, several as good. What refused calls leave unchanged is in RefusedTest.
 */
public final class BoundariesTest {
    private static final int AND = 0;
    private static final int OR = 1;
    private static final int XOR = 2;
    private static final int NAND = 3;
    private static final int NOR = 4;
    private static final int NOT = 5;
    private static final int NONE = -1;
    private static final int FULL = -2;
    private static final int LEAST = Integer.MIN_VALUE;
    private static final int GREATEST = Integer.MAX_VALUE;

    // Beside the edges: numbers that a shift, a mask or a narrower type would take for a right one.
    private static final int[] NO_KINDS = {
        -1, -2, -6, -256, -65536, LEAST, LEAST + 1, 6, 7, 8, 16, 32, 256, 65536, GREATEST - 1, GREATEST};
    private static final int[] NO_VECTORS = {
        -1, -2, -31, -32, -256, -65536, LEAST, LEAST + 1, 32, 33, 63, 64, 256, 65536, GREATEST - 1, GREATEST};
    private static final int[] NO_VALUES = {
        -1, -2, -32, -256, -65536, LEAST, LEAST + 1, 2, 3, 32, 33, 256, 257, 65536, 65537, GREATEST - 1, GREATEST};

    public static void main(String[] args) {
        usedForAsManyAs512Calls();
        startsWithoutGates();
        startsWithNothingWatched();
        gateOfAKindTooSmallOrTooLarge();
        gateOfTheLeastAndTheGreatestKind();
        gateWhoseXIsNotThere();
        gateWhoseYIsNotThere();
        gateThatReadsTheFirstAndTheLastLine();
        gateNotWhoseYDoesNotMatter();
        gateWhenLine15IsThere();
        gateWhenLine15IsThereNoMore();
        dropOnANewObject();
        dropWhenNoGateIsLeft();
        dropOfAWatchedLine();
        watchALineThatIsNotThere();
        watchTheFirstAndTheLastLine();
        watchWhatIsWatchedAlready();
        linesFromFewestToMost();
        watchedFromNoneToAll();
        valueOfALineThatIsNotThere();
        valueWithAVectorTooSmallOrTooLarge();
        valueWithTheLeastAndTheGreatestVector();
        showsOfALineThatIsNotThere();
        showsOfAValueThatIsNot0Or1();
        showsWithAVectorTooSmallOrTooLarge();
        showsWithTheLeastAndTheGreatestVector();
        showsWhenNothingIsWatched();
        testOfAFaultThatNoVectorShows();
        testWhenNothingIsWatched();
        testOfALineThatIsNotThere();
        testOfAValueThatIsNot0Or1();
        testOfAFaultThatOneVectorShows();
        testOfAFaultThatSeveralVectorsShow();
        testFromBelow0();
        testFromAbove31();
        testFromTheEdges();
        testFromTheVectorItselfAndPastIt();
        testFromOfAFaultThatNoVectorShows();
        testFromOfALineThatIsNotThere();
        testFromOfAValueThatIsNot0Or1();
        hiddenOfAValueThatIsNot0Or1();
        hiddenWhenNothingIsWatched();
        hiddenWhenAllLinesAreShown();
        hiddenHasOnlyLinesThatAreThere();
        shownByAVectorTooSmallOrTooLarge();
        shownByWhenNothingIsWatched();
        shownByWhenAllIsWatched();
        bestVectorWhenNothingIsWatched();
        bestVectorWhenAllShowAsMany();
        bestVectorWhenSeveralShowAsMany();
        bestVectorWhenOneShowsTheMost();
        alikeOfALineThatIsNotThere();
        alikeOfAValueThatIsNot0Or1();
        alikeOfFaultsThatNoVectorShows();
        alikeWhenNothingIsWatched();
        alikeWhenOneVectorMakesTheDifference();
        alikeOfAFaultAndItself();
        onesOfALineThatIsNotThere();
        onesFromNoneToAll();
        noneBeforeFull();
        Due.end();
    }

    /** A circuit of so many lines, where every gate is the XOR of line 0 and the line before it. */
    private static TestPatterns ofLines(int lines) {
        TestPatterns p = new TestPatterns();
        for (int line = 5; line < lines; line++) {
            p.gate(XOR, 0, line - 1);
        }
        return p;
    }

    /** Lines 5 .. 8: line 8 is the AND of all five inputs, and alone is watched. */
    private static TestPatterns andOfAll() {
        TestPatterns p = new TestPatterns();
        p.gate(AND, 0, 1);
        p.gate(AND, 5, 2);
        p.gate(AND, 6, 3);
        p.gate(AND, 7, 4);
        p.watch(8, true);
        return p;
    }

    /** Lines 5 .. 8: line 8 is the OR of all five inputs, and alone is watched. */
    private static TestPatterns orOfAll() {
        TestPatterns p = new TestPatterns();
        p.gate(OR, 0, 1);
        p.gate(OR, 5, 2);
        p.gate(OR, 6, 3);
        p.gate(OR, 7, 4);
        p.watch(8, true);
        return p;
    }

    private static void watchAll(TestPatterns p, int lines) {
        for (int line = 0; line < lines; line++) {
            p.watch(line, true);
        }
    }

    /** Numbers that are not a line in a circuit of so many lines. */
    private static int[] noLines(int lines) {
        return new int[] {
            -1, -2, -5, -16, -32, -256, -65536, LEAST, LEAST + 1,
            lines, lines + 1, 16, 17, 31, 32, 31 + lines, 64, 256, 65536, GREATEST - 1, GREATEST};
    }

    private static String in(int lines) {
        return " in " + lines + " lines";
    }

    // What it is: "An object is used for at most 512 calls".

    private static void usedForAsManyAs512Calls() {
        TestPatterns p = new TestPatterns();
        for (int call = 1; call <= 510; call += 2) {
            Due.equal("gate(0, 0, 1), call " + call, p.gate(AND, 0, 1), 5);
            Due.equal("drop(), call " + (call + 1), p.drop(), 5);
        }
        Due.equal("gate(3, 0, 1), call 511", p.gate(NAND, 0, 1), 5);
        Due.equal("value(5, 3), call 512", p.value(5, 3), 0);
    }

    // Promise 1: "No gates, nothing watched."

    private static void startsWithoutGates() {
        Due.equal("1: lines()", new TestPatterns().lines(), 5);
        Due.equal("1: drop()", new TestPatterns().drop(), NONE);
        TestPatterns p = new TestPatterns();
        for (int line = 5; line < 16; line++) {
            Due.equal("1: value(" + line + ", 0)", p.value(line, 0), NONE);
            Due.equal("1: ones(" + line + ")", p.ones(line), NONE);
            Due.equal("1: watch(" + line + ", true)", p.watch(line, true), false);
        }
        Due.equal("1: gate(0, 0, 0)", p.gate(AND, 0, 0), 5);
        Due.equal("1: lines() of a second object", new TestPatterns().lines(), 5);
    }

    private static void startsWithNothingWatched() {
        Due.equal("1: watched()", new TestPatterns().watched(), 0);
        TestPatterns p = new TestPatterns();
        for (int line = 0; line < 5; line++) {
            Due.equal("1: test(" + line + ", 0)", p.test(line, 0), NONE);
            Due.equal("1: test(" + line + ", 1)", p.test(line, 1), NONE);
        }
        p.watch(2, true);
        Due.equal("1: watched() of a second object", new TestPatterns().watched(), 0);
    }

    // Promise 2: "NONE when kind is not 0 .. 5 or x or y is not a line that is there (y of NOT does
    // not matter); FULL when line 15 is there."

    private static void gateOfAKindTooSmallOrTooLarge() {
        for (int lines = 5; lines < 16; lines++) {
            TestPatterns p = ofLines(lines);
            for (int kind : NO_KINDS) {
                Due.equal("2: gate(" + kind + ", 0, 1)" + in(lines), p.gate(kind, 0, 1), NONE);
            }
            Due.equal("2: lines()" + in(lines), p.lines(), lines);
        }
    }

    private static void gateOfTheLeastAndTheGreatestKind() {
        TestPatterns p = new TestPatterns();
        Due.equal("2: gate(0, 0, 1)", p.gate(AND, 0, 1), 5);
        Due.equal("2: gate(5, 0, 1)", p.gate(NOT, 0, 1), 6);
        Due.equal("2: ones(5), AND", p.ones(5), 8);
        Due.equal("2: ones(6), NOT", p.ones(6), 16);
    }

    private static void gateWhoseXIsNotThere() {
        for (int lines = 5; lines < 16; lines++) {
            TestPatterns p = ofLines(lines);
            for (int kind = AND; kind <= NOT; kind++) {
                for (int x : noLines(lines)) {
                    Due.equal("2: gate(" + kind + ", " + x + ", 0)" + in(lines), p.gate(kind, x, 0), NONE);
                }
            }
            Due.equal("2: lines()" + in(lines), p.lines(), lines);
        }
    }

    private static void gateWhoseYIsNotThere() {
        for (int lines = 5; lines < 16; lines++) {
            TestPatterns p = ofLines(lines);
            for (int kind = AND; kind <= NOR; kind++) {
                for (int y : noLines(lines)) {
                    Due.equal("2: gate(" + kind + ", 0, " + y + ")" + in(lines), p.gate(kind, 0, y), NONE);
                }
            }
            Due.equal("2: lines()" + in(lines), p.lines(), lines);
        }
    }

    private static void gateThatReadsTheFirstAndTheLastLine() {
        for (int lines = 5; lines < 16; lines++) {
            for (int kind = AND; kind <= NOT; kind++) {
                int last = lines - 1;
                String call = "2: gate(" + kind + ", " + last;
                Due.equal(call + ", 0)" + in(lines), ofLines(lines).gate(kind, last, 0), lines);
                Due.equal(call + ", " + last + ")" + in(lines), ofLines(lines).gate(kind, last, last), lines);
                Due.equal("2: gate(" + kind + ", 0, " + last + ")" + in(lines), ofLines(lines).gate(kind, 0, last), lines);
                Due.equal("2: gate(" + kind + ", 0, 0)" + in(lines), ofLines(lines).gate(kind, 0, 0), lines);
            }
        }
    }

    private static void gateNotWhoseYDoesNotMatter() {
        for (int lines = 5; lines < 16; lines++) {
            for (int y : noLines(lines)) {
                TestPatterns p = ofLines(lines);
                Due.equal("2: gate(5, 4, " + y + ")" + in(lines), p.gate(NOT, 4, y), lines);
                p.watch(lines, true);
                Due.equal("2: value(" + lines + ", 15) with y " + y, p.value(lines, 15), 1);
                Due.equal("2: value(" + lines + ", 16) with y " + y, p.value(lines, 16), 0);
                Due.equal("2: test(4, 0) with y " + y, p.test(4, 0), 16);
                Due.equal("2: test(0, 0) with y " + y, p.test(0, 0), NONE);
            }
        }
        // Nor does a y that is there: the gate reads x alone.
        TestPatterns p = new TestPatterns();
        p.gate(NOT, 4, 0);
        p.watch(5, true);
        Due.equal("2: ones(5) of NOT 4 with y 0", p.ones(5), 16);
        Due.equal("2: test(0, 1) of NOT 4 with y 0", p.test(0, 1), NONE);
    }

    private static void gateWhenLine15IsThere() {
        TestPatterns p = new TestPatterns();
        for (int line = 5; line < 16; line++) {
            Due.equal("2: gate(1, 0, 1)", p.gate(OR, 0, 1), line);
        }
        for (int kind = AND; kind <= NOT; kind++) {
            Due.equal("2: gate(" + kind + ", 0, 0) when full", p.gate(kind, 0, 0), FULL);
            Due.equal("2: gate(" + kind + ", 15, 15) when full", p.gate(kind, 15, 15), FULL);
        }
        for (int y : noLines(16)) {
            Due.equal("2: gate(5, 15, " + y + ") when full", p.gate(NOT, 15, y), FULL);
        }
        Due.equal("2: lines() when full", p.lines(), 16);
    }

    private static void gateWhenLine15IsThereNoMore() {
        TestPatterns p = ofLines(16);
        p.drop();
        Due.equal("2: gate(4, 0, 15) when line 15 was dropped", p.gate(NOR, 0, 15), NONE);
        Due.equal("2: gate(4, 0, 14) when line 15 was dropped", p.gate(NOR, 0, 14), 15);
        Due.equal("2: gate(4, 0, 14) when full again", p.gate(NOR, 0, 14), FULL);
    }

    // Promise 3: "NONE when there is no gate"; "its line is not watched any more".

    private static void dropOnANewObject() {
        TestPatterns p = new TestPatterns();
        Due.equal("3: drop() on a new object", p.drop(), NONE);
        Due.equal("3: drop() again", p.drop(), NONE);
        Due.equal("3: lines()", p.lines(), 5);
        Due.equal("3: gate(0, 4, 4)", p.gate(AND, 4, 4), 5);
    }

    private static void dropWhenNoGateIsLeft() {
        TestPatterns p = ofLines(16);
        p.watch(4, true);
        for (int left = 15; left >= 5; left--) {
            Due.equal("3: drop()", p.drop(), left);
        }
        Due.equal("3: drop() with no gate left", p.drop(), NONE);
        Due.equal("3: drop() again with no gate left", p.drop(), NONE);
        Due.equal("3: lines() with no gate left", p.lines(), 5);
        Due.equal("3: watched() with no gate left", p.watched(), 16);
    }

    private static void dropOfAWatchedLine() {
        TestPatterns p = ofLines(16);
        watchAll(p, 16);
        for (int left = 15; left >= 5; left--) {
            p.drop();
            Due.equal("3: watched() with " + left + " lines left", p.watched(), (1 << left) - 1);
        }
        for (int line = 5; line < 16; line++) {
            p.gate(OR, 0, 0);
            Due.equal("3: watched() with a new line " + line, p.watched(), 31);
        }
    }

    // Promise 4: "false, changing nothing, when there is no such line."

    private static void watchALineThatIsNotThere() {
        for (int lines = 5; lines <= 16; lines++) {
            TestPatterns p = ofLines(lines);
            for (int line : noLines(lines)) {
                Due.equal("4: watch(" + line + ", true)" + in(lines), p.watch(line, true), false);
                Due.equal("4: watched() after watch(" + line + ", true)" + in(lines), p.watched(), 0);
            }
            watchAll(p, lines);
            for (int line : noLines(lines)) {
                Due.equal("4: watch(" + line + ", false)" + in(lines), p.watch(line, false), false);
                Due.equal("4: watched() after watch(" + line + ", false)" + in(lines), p.watched(), (1 << lines) - 1);
            }
            if (lines < 16) {
                p.gate(AND, 0, 0);
                Due.equal("4: watched() with a line more" + in(lines), p.watched(), (1 << lines) - 1);
            }
        }
    }

    private static void watchTheFirstAndTheLastLine() {
        for (int lines = 5; lines <= 16; lines++) {
            TestPatterns p = ofLines(lines);
            int last = lines - 1;
            Due.equal("4: watch(" + last + ", true)" + in(lines), p.watch(last, true), true);
            Due.equal("4: watched()" + in(lines), p.watched(), 1 << last);
            Due.equal("4: watch(0, true)" + in(lines), p.watch(0, true), true);
            Due.equal("4: watched()" + in(lines), p.watched(), 1 << last | 1);
            Due.equal("4: watch(" + last + ", false)" + in(lines), p.watch(last, false), true);
            Due.equal("4: watched()" + in(lines), p.watched(), 1);
            Due.equal("4: watch(0, false)" + in(lines), p.watch(0, false), true);
            Due.equal("4: watched()" + in(lines), p.watched(), 0);
        }
    }

    private static void watchWhatIsWatchedAlready() {
        TestPatterns p = ofLines(6);
        Due.equal("4: watch(5, false), not watched", p.watch(5, false), true);
        Due.equal("4: watched()", p.watched(), 0);
        Due.equal("4: watch(5, true)", p.watch(5, true), true);
        Due.equal("4: watch(5, true) again", p.watch(5, true), true);
        Due.equal("4: watched()", p.watched(), 32);
        Due.equal("4: watch(5, false)", p.watch(5, false), true);
        Due.equal("4: watched()", p.watched(), 0);
    }

    // Promises 5 and 6, with the Terms: "A circuit has LINES 0 .. 15", "Any lines can be WATCHED".

    private static void linesFromFewestToMost() {
        TestPatterns p = new TestPatterns();
        p.drop();
        Due.equal("5: lines() after a refused drop()", p.lines(), 5);
        for (int lines = 6; lines <= 16; lines++) {
            p.gate(XOR, 0, 1);
            Due.equal("5: lines()", p.lines(), lines);
        }
        p.gate(XOR, 0, 1);
        Due.equal("5: lines() after FULL", p.lines(), 16);
    }

    private static void watchedFromNoneToAll() {
        TestPatterns p = ofLines(16);
        Due.equal("6: watched(), none", p.watched(), 0);
        watchAll(p, 16);
        Due.equal("6: watched(), all", p.watched(), 65535);
        p.drop();
        Due.equal("6: watched(), all of fifteen", p.watched(), 32767);
    }

    // Promise 7: "NONE when there is no such line or the vector is not 0 .. 31."

    private static void valueOfALineThatIsNotThere() {
        for (int lines = 5; lines <= 16; lines++) {
            TestPatterns p = ofLines(lines);
            for (int line : noLines(lines)) {
                Due.equal("7: value(" + line + ", 0)" + in(lines), p.value(line, 0), NONE);
                Due.equal("7: value(" + line + ", 31)" + in(lines), p.value(line, 31), NONE);
            }
        }
    }

    private static void valueWithAVectorTooSmallOrTooLarge() {
        TestPatterns p = ofLines(16);
        for (int vector : NO_VECTORS) {
            for (int line = 0; line < 16; line++) {
                Due.equal("7: value(" + line + ", " + vector + ")", p.value(line, vector), NONE);
            }
            Due.equal("7: value(16, " + vector + ")", p.value(16, vector), NONE);
        }
    }

    private static void valueWithTheLeastAndTheGreatestVector() {
        TestPatterns p = ofLines(16);
        for (int line = 0; line < 5; line++) {
            Due.equal("7: value(" + line + ", 0)", p.value(line, 0), 0);
            Due.equal("7: value(" + line + ", 31)", p.value(line, 31), 1);
        }
        // Line 15 is line 4 after eleven XORs with line 0.
        Due.equal("7: value(15, 0)", p.value(15, 0), 0);
        Due.equal("7: value(15, 31)", p.value(15, 31), 0);
        Due.equal("7: value(15, 1)", p.value(15, 1), 1);
        Due.equal("7: value(15, 30)", p.value(15, 30), 1);
    }

    // Promise 8: "false when there is no such line, v is not 0 or 1, or the vector is not 0 .. 31."

    private static void showsOfALineThatIsNotThere() {
        for (int lines = 5; lines <= 16; lines++) {
            TestPatterns p = ofLines(lines);
            watchAll(p, lines);
            for (int line : noLines(lines)) {
                for (int v = 0; v <= 1; v++) {
                    Due.equal("8: shows(0, " + line + ", " + v + ")" + in(lines), p.shows(0, line, v), false);
                    Due.equal("8: shows(31, " + line + ", " + v + ")" + in(lines), p.shows(31, line, v), false);
                }
            }
        }
    }

    private static void showsOfAValueThatIsNot0Or1() {
        TestPatterns p = ofLines(16);
        watchAll(p, 16);
        for (int v : NO_VALUES) {
            for (int line = 0; line < 16; line += 5) {
                Due.equal("8: shows(0, " + line + ", " + v + ")", p.shows(0, line, v), false);
                Due.equal("8: shows(31, " + line + ", " + v + ")", p.shows(31, line, v), false);
            }
        }
    }

    private static void showsWithAVectorTooSmallOrTooLarge() {
        TestPatterns p = ofLines(16);
        watchAll(p, 16);
        for (int vector : NO_VECTORS) {
            for (int line = 0; line < 16; line += 5) {
                Due.equal("8: shows(" + vector + ", " + line + ", 0)", p.shows(vector, line, 0), false);
                Due.equal("8: shows(" + vector + ", " + line + ", 1)", p.shows(vector, line, 1), false);
            }
        }
    }

    private static void showsWithTheLeastAndTheGreatestVector() {
        TestPatterns p = ofLines(16);
        p.watch(0, true);
        p.watch(15, true);
        Due.equal("8: shows(0, 0, 0)", p.shows(0, 0, 0), false);
        Due.equal("8: shows(0, 0, 1)", p.shows(0, 0, 1), true);
        Due.equal("8: shows(31, 0, 0)", p.shows(31, 0, 0), true);
        Due.equal("8: shows(31, 0, 1)", p.shows(31, 0, 1), false);
        Due.equal("8: shows(0, 15, 0)", p.shows(0, 15, 0), false);
        Due.equal("8: shows(0, 15, 1)", p.shows(0, 15, 1), true);
        Due.equal("8: shows(31, 15, 0)", p.shows(31, 15, 0), false);
        Due.equal("8: shows(31, 15, 1)", p.shows(31, 15, 1), true);
    }

    private static void showsWhenNothingIsWatched() {
        TestPatterns p = ofLines(7);
        p.watch(6, true);
        p.watch(6, false);
        for (int vector = 0; vector < 32; vector++) {
            for (int line = 0; line < 7; line++) {
                Due.equal("8: shows(" + vector + ", " + line + ", 0), nothing watched", p.shows(vector, line, 0), false);
                Due.equal("8: shows(" + vector + ", " + line + ", 1), nothing watched", p.shows(vector, line, 1), false);
            }
        }
    }

    // Promise 9: "The least vector"; "NONE when there is none, no such line, or v is not 0 or 1."

    private static void testOfAFaultThatNoVectorShows() {
        TestPatterns p = new TestPatterns();
        p.gate(NOT, 0, 0);
        p.gate(AND, 0, 5);
        p.gate(OR, 0, 1);
        p.watch(6, true);
        // Line 6 is always 0; no watched line reads 7, nor 1 .. 4.
        Due.equal("9: test(6, 0), already so", p.test(6, 0), NONE);
        Due.equal("9: test(0, 0), read twice", p.test(0, 0), NONE);
        Due.equal("9: test(0, 1), read twice", p.test(0, 1), NONE);
        Due.equal("9: test(7, 0), not read", p.test(7, 0), NONE);
        Due.equal("9: test(7, 1), not read", p.test(7, 1), NONE);
        Due.equal("9: test(4, 0), not read", p.test(4, 0), NONE);
        Due.equal("9: test(4, 1), not read", p.test(4, 1), NONE);
    }

    private static void testWhenNothingIsWatched() {
        TestPatterns p = ofLines(16);
        for (int line = 0; line < 16; line++) {
            Due.equal("9: test(" + line + ", 0), nothing watched", p.test(line, 0), NONE);
            Due.equal("9: test(" + line + ", 1), nothing watched", p.test(line, 1), NONE);
        }
    }

    private static void testOfALineThatIsNotThere() {
        for (int lines = 5; lines <= 16; lines++) {
            TestPatterns p = ofLines(lines);
            watchAll(p, lines);
            for (int line : noLines(lines)) {
                Due.equal("9: test(" + line + ", 0)" + in(lines), p.test(line, 0), NONE);
                Due.equal("9: test(" + line + ", 1)" + in(lines), p.test(line, 1), NONE);
            }
        }
    }

    private static void testOfAValueThatIsNot0Or1() {
        TestPatterns p = ofLines(16);
        watchAll(p, 16);
        for (int v : NO_VALUES) {
            for (int line = 0; line < 16; line++) {
                Due.equal("9: test(" + line + ", " + v + ")", p.test(line, v), NONE);
            }
        }
    }

    private static void testOfAFaultThatOneVectorShows() {
        Due.equal("9: test(8, 0), only vector 31", andOfAll().test(8, 0), 31);
        Due.equal("9: test(0, 0), only vector 31", andOfAll().test(0, 0), 31);
        Due.equal("9: test(0, 1), only vector 30", andOfAll().test(0, 1), 30);
        Due.equal("9: test(8, 1), only vector 0", orOfAll().test(8, 1), 0);
        Due.equal("9: test(0, 1), only vector 0", orOfAll().test(0, 1), 0);
        Due.equal("9: test(0, 0), only vector 1", orOfAll().test(0, 0), 1);
    }

    private static void testOfAFaultThatSeveralVectorsShow() {
        Due.equal("9: test(8, 1), all but vector 31", andOfAll().test(8, 1), 0);
        Due.equal("9: test(8, 0), all but vector 0", orOfAll().test(8, 0), 1);
        TestPatterns p = new TestPatterns();
        watchAll(p, 5);
        for (int line = 0; line < 5; line++) {
            Due.equal("9: test(" + line + ", 0), watched input", p.test(line, 0), 1 << line);
            Due.equal("9: test(" + line + ", 1), watched input", p.test(line, 1), 0);
        }
    }

    // Promise 10: "The least vector, not below from"; "NONE as in test, or when from is above 31
    // (below 0 it counts as 0)."

    private static void testFromBelow0() {
        int[] below = {-1, -2, -31, -32, -33, -64, -256, -65536, LEAST, LEAST + 1};
        for (int from : below) {
            Due.equal("10: testFrom(8, 0, " + from + "), only vector 31", andOfAll().testFrom(8, 0, from), 31);
            Due.equal("10: testFrom(8, 1, " + from + "), all but vector 31", andOfAll().testFrom(8, 1, from), 0);
            Due.equal("10: testFrom(8, 1, " + from + "), only vector 0", orOfAll().testFrom(8, 1, from), 0);
            Due.equal("10: testFrom(8, 0, " + from + "), all but vector 0", orOfAll().testFrom(8, 0, from), 1);
        }
    }

    private static void testFromAbove31() {
        int[] above = {32, 33, 62, 63, 64, 95, 256, 65536, GREATEST - 1, GREATEST};
        for (int from : above) {
            Due.equal("10: testFrom(8, 0, " + from + "), only vector 31", andOfAll().testFrom(8, 0, from), NONE);
            Due.equal("10: testFrom(8, 1, " + from + "), all but vector 31", andOfAll().testFrom(8, 1, from), NONE);
            Due.equal("10: testFrom(8, 1, " + from + "), only vector 0", orOfAll().testFrom(8, 1, from), NONE);
            Due.equal("10: testFrom(8, 0, " + from + "), all but vector 0", orOfAll().testFrom(8, 0, from), NONE);
        }
    }

    private static void testFromTheEdges() {
        Due.equal("10: testFrom(8, 0, 0), only vector 31", andOfAll().testFrom(8, 0, 0), 31);
        Due.equal("10: testFrom(8, 0, 31), only vector 31", andOfAll().testFrom(8, 0, 31), 31);
        Due.equal("10: testFrom(8, 1, 31), all but vector 31", andOfAll().testFrom(8, 1, 31), NONE);
        Due.equal("10: testFrom(8, 1, 0), only vector 0", orOfAll().testFrom(8, 1, 0), 0);
        Due.equal("10: testFrom(8, 1, 1), only vector 0", orOfAll().testFrom(8, 1, 1), NONE);
        Due.equal("10: testFrom(8, 0, 31), all but vector 0", orOfAll().testFrom(8, 0, 31), 31);
    }

    private static void testFromTheVectorItselfAndPastIt() {
        TestPatterns p = new TestPatterns();
        p.gate(AND, 0, 1);
        p.watch(5, true);
        // Line 0 stuck at 1 is shown by 2, 6, 10, .. 30.
        for (int vector = 2; vector < 30; vector += 4) {
            Due.equal("10: testFrom(0, 1, " + (vector - 1) + ")", p.testFrom(0, 1, vector - 1), vector);
            Due.equal("10: testFrom(0, 1, " + vector + ")", p.testFrom(0, 1, vector), vector);
            Due.equal("10: testFrom(0, 1, " + (vector + 1) + ")", p.testFrom(0, 1, vector + 1), vector + 4);
        }
        Due.equal("10: testFrom(0, 1, 30)", p.testFrom(0, 1, 30), 30);
        Due.equal("10: testFrom(0, 1, 31), past the last", p.testFrom(0, 1, 31), NONE);
    }

    private static final int[] FROMS = {LEAST, -1, 0, 1, 16, 31, 32, GREATEST};

    private static void testFromOfAFaultThatNoVectorShows() {
        TestPatterns unwatched = ofLines(16);
        TestPatterns constant = new TestPatterns();
        constant.gate(XOR, 0, 0);
        constant.watch(5, true);
        for (int from : FROMS) {
            for (int line = 0; line < 16; line++) {
                Due.equal("10: testFrom(" + line + ", 0, " + from + "), nothing watched", unwatched.testFrom(line, 0, from), NONE);
                Due.equal("10: testFrom(" + line + ", 1, " + from + "), nothing watched", unwatched.testFrom(line, 1, from), NONE);
            }
            Due.equal("10: testFrom(5, 0, " + from + "), already so", constant.testFrom(5, 0, from), NONE);
            Due.equal("10: testFrom(0, 1, " + from + "), read twice", constant.testFrom(0, 1, from), NONE);
        }
    }

    private static void testFromOfALineThatIsNotThere() {
        for (int lines = 5; lines <= 16; lines++) {
            TestPatterns p = ofLines(lines);
            watchAll(p, lines);
            for (int line : noLines(lines)) {
                for (int from : FROMS) {
                    Due.equal("10: testFrom(" + line + ", 1, " + from + ")" + in(lines), p.testFrom(line, 1, from), NONE);
                }
            }
        }
    }

    private static void testFromOfAValueThatIsNot0Or1() {
        TestPatterns p = ofLines(16);
        watchAll(p, 16);
        for (int v : NO_VALUES) {
            for (int from : FROMS) {
                Due.equal("10: testFrom(0, " + v + ", " + from + ")", p.testFrom(0, v, from), NONE);
                Due.equal("10: testFrom(15, " + v + ", " + from + ")", p.testFrom(15, v, from), NONE);
            }
        }
    }

    // Promise 11: "no vector shows"; "(only lines that are there); 0 when v is not 0 or 1."

    private static void hiddenOfAValueThatIsNot0Or1() {
        TestPatterns small = new TestPatterns();
        TestPatterns full = ofLines(16);
        for (int v : NO_VALUES) {
            Due.equal("11: hidden(" + v + "), nothing watched", small.hidden(v), 0);
            Due.equal("11: hidden(" + v + "), full, nothing watched", full.hidden(v), 0);
        }
    }

    private static void hiddenWhenNothingIsWatched() {
        for (int lines = 5; lines <= 16; lines++) {
            Due.equal("11: hidden(0), nothing watched" + in(lines), ofLines(lines).hidden(0), (1 << lines) - 1);
            Due.equal("11: hidden(1), nothing watched" + in(lines), ofLines(lines).hidden(1), (1 << lines) - 1);
        }
    }

    private static void hiddenWhenAllLinesAreShown() {
        for (int lines = 5; lines <= 16; lines++) {
            TestPatterns p = ofLines(lines);
            watchAll(p, lines);
            Due.equal("11: hidden(0), all watched" + in(lines), p.hidden(0), 0);
            Due.equal("11: hidden(1), all watched" + in(lines), p.hidden(1), 0);
        }
        Due.equal("11: hidden(0), each by vector 31 alone", andOfAll().hidden(0), 0);
        Due.equal("11: hidden(1), each by vector 0 alone", orOfAll().hidden(1), 0);
    }

    private static void hiddenHasOnlyLinesThatAreThere() {
        TestPatterns p = ofLines(16);
        p.watch(0, true);
        // The gates are not watched and no watched line reads them.
        for (int lines = 16; lines >= 5; lines--) {
            Due.equal("11: hidden(0) after drops" + in(lines), p.hidden(0), (1 << lines) - 2);
            Due.equal("11: hidden(1) after drops" + in(lines), p.hidden(1), (1 << lines) - 2);
            p.drop();
        }
    }

    // Promise 12: "NONE when it is not 0 .. 31."

    private static void shownByAVectorTooSmallOrTooLarge() {
        TestPatterns unwatched = new TestPatterns();
        TestPatterns full = ofLines(16);
        watchAll(full, 16);
        for (int vector : NO_VECTORS) {
            Due.equal("12: shownBy(" + vector + "), nothing watched", unwatched.shownBy(vector), NONE);
            Due.equal("12: shownBy(" + vector + "), all watched", full.shownBy(vector), NONE);
        }
    }

    private static void shownByWhenNothingIsWatched() {
        TestPatterns p = ofLines(16);
        for (int vector = 0; vector < 32; vector++) {
            Due.equal("12: shownBy(" + vector + "), nothing watched", p.shownBy(vector), 0);
        }
    }

    private static void shownByWhenAllIsWatched() {
        // A watched line shows itself stuck at the other value, and never at the one it has.
        for (int lines = 5; lines <= 16; lines++) {
            TestPatterns p = ofLines(lines);
            watchAll(p, lines);
            for (int vector = 0; vector < 32; vector++) {
                Due.equal("12: shownBy(" + vector + "), all watched" + in(lines), p.shownBy(vector), lines);
            }
        }
    }

    // Promise 13: "The least vector that shows the most faults."

    private static void bestVectorWhenNothingIsWatched() {
        Due.equal("13: bestVector() of a new object", new TestPatterns().bestVector(), 0);
        Due.equal("13: bestVector() when full, nothing watched", ofLines(16).bestVector(), 0);
    }

    private static void bestVectorWhenAllShowAsMany() {
        for (int lines = 5; lines <= 16; lines++) {
            TestPatterns p = ofLines(lines);
            watchAll(p, lines);
            Due.equal("13: bestVector(), all watched" + in(lines), p.bestVector(), 0);
        }
    }

    private static void bestVectorWhenSeveralShowAsMany() {
        for (int line = 1; line < 5; line++) {
            TestPatterns p = new TestPatterns();
            p.gate(AND, 0, line);
            p.watch(5, true);
            Due.equal("13: bestVector() of 0 AND " + line, p.bestVector(), 1 | 1 << line);
        }
        TestPatterns p = new TestPatterns();
        p.gate(NOT, 0, 0);
        p.gate(OR, 0, 5);
        p.gate(AND, 4, 6);
        p.watch(7, true);
        // 4, 5, 6 and 7 stuck at 0 are shown by 16, 18, .. 30: line 4 is 1 and line 0 is 0.
        Due.equal("13: bestVector() of 16, 18, .. 30", p.bestVector(), 16);
    }

    private static void bestVectorWhenOneShowsTheMost() {
        Due.equal("13: bestVector(), vector 31 alone", andOfAll().bestVector(), 31);
        Due.equal("13: bestVector(), vector 0 alone", orOfAll().bestVector(), 0);
    }

    // Promise 14: "exactly the same vectors"; "false when a line or a value is not as in test."

    private static void alikeOfALineThatIsNotThere() {
        for (int lines = 5; lines <= 16; lines++) {
            // Nothing is watched: any two faults of lines that are there would be alike.
            TestPatterns p = ofLines(lines);
            for (int line : noLines(lines)) {
                for (int v = 0; v <= 1; v++) {
                    String fault = line + ", " + v;
                    Due.equal("14: alike(" + fault + ", 0, 0)" + in(lines), p.alike(line, v, 0, 0), false);
                    Due.equal("14: alike(0, 0, " + fault + ")" + in(lines), p.alike(0, 0, line, v), false);
                    Due.equal("14: alike(" + fault + ", " + fault + ")" + in(lines), p.alike(line, v, line, v), false);
                }
            }
        }
    }

    private static void alikeOfAValueThatIsNot0Or1() {
        TestPatterns p = ofLines(16);
        for (int v : NO_VALUES) {
            for (int line = 0; line < 16; line += 5) {
                String fault = line + ", " + v;
                Due.equal("14: alike(" + fault + ", 0, 0)", p.alike(line, v, 0, 0), false);
                Due.equal("14: alike(0, 0, " + fault + ")", p.alike(0, 0, line, v), false);
                Due.equal("14: alike(" + fault + ", " + fault + ")", p.alike(line, v, line, v), false);
            }
        }
    }

    private static void alikeOfFaultsThatNoVectorShows() {
        TestPatterns p = new TestPatterns();
        p.gate(XOR, 0, 0);
        p.watch(5, true);
        Due.equal("14: alike(5, 0, 4, 1), neither is shown", p.alike(5, 0, 4, 1), true);
        Due.equal("14: alike(0, 0, 0, 1), neither is shown", p.alike(0, 0, 0, 1), true);
        Due.equal("14: alike(5, 0, 5, 1), all show one of them", p.alike(5, 0, 5, 1), false);
        Due.equal("14: alike(5, 1, 4, 1), all show one of them", p.alike(5, 1, 4, 1), false);
    }

    private static void alikeWhenNothingIsWatched() {
        TestPatterns p = ofLines(16);
        for (int a = 0; a < 16; a += 5) {
            for (int b = 0; b < 16; b++) {
                Due.equal("14: alike(" + a + ", 0, " + b + ", 0), nothing watched", p.alike(a, 0, b, 0), true);
                Due.equal("14: alike(" + a + ", 1, " + b + ", 0), nothing watched", p.alike(a, 1, b, 0), true);
            }
        }
    }

    private static void alikeWhenOneVectorMakesTheDifference() {
        TestPatterns and = andOfAll();
        and.gate(AND, 0, 0);
        Due.equal("14: alike(8, 0, 9, 0), vector 31", and.alike(8, 0, 9, 0), false);
        Due.equal("14: alike(9, 0, 8, 0), vector 31", and.alike(9, 0, 8, 0), false);
        TestPatterns or = orOfAll();
        or.gate(OR, 0, 0);
        Due.equal("14: alike(8, 1, 9, 1), vector 0", or.alike(8, 1, 9, 1), false);
        Due.equal("14: alike(9, 1, 8, 1), vector 0", or.alike(9, 1, 8, 1), false);
    }

    private static void alikeOfAFaultAndItself() {
        TestPatterns p = andOfAll();
        for (int line = 0; line < 9; line++) {
            Due.equal("14: alike(" + line + ", 0, " + line + ", 0)", p.alike(line, 0, line, 0), true);
            Due.equal("14: alike(" + line + ", 1, " + line + ", 1)", p.alike(line, 1, line, 1), true);
            Due.equal("14: alike(" + line + ", 0, " + line + ", 1)", p.alike(line, 0, line, 1), false);
        }
    }

    // Promise 15: "NONE when there is no such line."

    private static void onesOfALineThatIsNotThere() {
        for (int lines = 5; lines <= 16; lines++) {
            TestPatterns p = ofLines(lines);
            for (int line : noLines(lines)) {
                Due.equal("15: ones(" + line + ")" + in(lines), p.ones(line), NONE);
            }
        }
    }

    private static void onesFromNoneToAll() {
        TestPatterns p = andOfAll();
        p.gate(NOT, 8, 0);
        p.gate(XOR, 0, 0);
        p.gate(NOT, 10, 0);
        for (int line = 12; line < 15; line++) {
            p.gate(AND, 0, 0);
        }
        p.gate(OR, 11, 11);
        Due.equal("15: ones(0)", p.ones(0), 16);
        Due.equal("15: ones(4)", p.ones(4), 16);
        Due.equal("15: ones(8), vector 31 alone", p.ones(8), 1);
        Due.equal("15: ones(9), all but vector 31", p.ones(9), 31);
        Due.equal("15: ones(10), none", p.ones(10), 0);
        Due.equal("15: ones(11), all", p.ones(11), 32);
        Due.equal("15: ones(15), all", p.ones(15), 32);
    }

    // Promise 16: "gate: NONE is tested before FULL."

    private static void noneBeforeFull() {
        TestPatterns p = ofLines(16);
        for (int kind : NO_KINDS) {
            Due.equal("16: gate(" + kind + ", 0, 0) when full", p.gate(kind, 0, 0), NONE);
            Due.equal("16: gate(" + kind + ", 16, -1) when full", p.gate(kind, 16, -1), NONE);
        }
        for (int line : noLines(16)) {
            for (int kind = AND; kind <= NOT; kind++) {
                Due.equal("16: gate(" + kind + ", " + line + ", 0) when full", p.gate(kind, line, 0), NONE);
                int due = kind == NOT ? FULL : NONE;
                Due.equal("16: gate(" + kind + ", 0, " + line + ") when full", p.gate(kind, 0, line), due);
            }
        }
        Due.equal("16: gate(0, 0, 0) when full", p.gate(AND, 0, 0), FULL);
    }
}
