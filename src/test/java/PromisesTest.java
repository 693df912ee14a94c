/** Each promise with ordinary inputs; BoundariesTest and RefusedTest have the edges and the wrong ones. */
public final class PromisesTest {
    private static final int AND = 0;
    private static final int OR = 1;
    private static final int XOR = 2;
    private static final int NAND = 3;
    private static final int NOR = 4;
    private static final int NOT = 5;
    private static final int NONE = -1;
    private static final int FULL = -2;

    public static void main(String[] args) {
        constants();
        promise1NewObject();
        promise2Gate();
        promise3Drop();
        promise4Watch();
        promise5Lines();
        promise6Watched();
        promise7Value();
        promise8Shows();
        promise8StuckLineIsReadAndWatched();
        promise9Test();
        promise10TestFrom();
        promise11Hidden();
        promise12ShownBy();
        promise13BestVector();
        promise14Alike();
        promise15Ones();
        questionsChangeNothing();
        Due.end();
    }

    private static void constants() {
        Due.equal("NONE", TestPatterns.NONE, NONE);
        Due.equal("FULL", TestPatterns.FULL, FULL);
    }

    private static void promise1NewObject() {
        TestPatterns p = new TestPatterns();
        Due.equal("1: lines()", p.lines(), 5);
        Due.equal("1: watched()", p.watched(), 0);
        Due.equal("1: drop()", p.drop(), NONE);
        for (int line = 0; line < 5; line++) {
            for (int vector = 0; vector < 32; vector++) {
                Due.equal("1: value(" + line + ", " + vector + ")", p.value(line, vector), (vector >> line) & 1);
            }
        }
        p.gate(AND, 0, 1);
        p.watch(5, true);
        TestPatterns other = new TestPatterns();
        Due.equal("1: lines() of another", other.lines(), 5);
        Due.equal("1: watched() of another", other.watched(), 0);
    }

    private static void promise2Gate() {
        // Bit (x + 2 * y) is the gate's value with the values x and y.
        int[] tables = {0b1000, 0b1110, 0b0110, 0b0111, 0b0001, 0b0101};
        for (int kind = AND; kind <= NOT; kind++) {
            TestPatterns p = new TestPatterns();
            Due.equal("2: gate(" + kind + ", 1, 3)", p.gate(kind, 1, 3), 5);
            Due.equal("2: gate(" + kind + ", 5, 5)", p.gate(kind, 5, 5), 6);
            Due.equal("2: gate(" + kind + ", 0, 5)", p.gate(kind, 0, 5), 7);
            for (int vector = 0; vector < 32; vector++) {
                int five = tables[kind] >> (((vector >> 1) & 1) + 2 * ((vector >> 3) & 1)) & 1;
                Due.equal("2: kind " + kind + " value(5, " + vector + ")", p.value(5, vector), five);
                int six = tables[kind] >> (3 * five) & 1;
                Due.equal("2: kind " + kind + " value(6, " + vector + ")", p.value(6, vector), six);
                int seven = tables[kind] >> ((vector & 1) + 2 * five) & 1;
                Due.equal("2: kind " + kind + " value(7, " + vector + ")", p.value(7, vector), seven);
            }
        }
    }

    private static void promise3Drop() {
        TestPatterns p = new TestPatterns();
        Due.equal("3: drop() without a gate", p.drop(), NONE);
        for (int line = 5; line < 16; line++) {
            p.gate(OR, line - 1, 0);
            p.watch(line, true);
        }
        p.watch(4, true);
        Due.equal("3: watched()", p.watched(), 0xFFF0);
        for (int left = 15; left >= 5; left--) {
            Due.equal("3: drop()", p.drop(), left);
            Due.equal("3: lines()", p.lines(), left);
            Due.equal("3: watched()", p.watched(), ((1 << left) - 1) & 0xFFF0);
            Due.equal("3: value of the dropped line", p.value(left, 0), NONE);
        }
        Due.equal("3: drop() when all are dropped", p.drop(), NONE);
        Due.equal("3: lines() when all are dropped", p.lines(), 5);
        Due.equal("3: watched() when all are dropped", p.watched(), 16);
        Due.equal("3: gate() after drops", p.gate(NOR, 1, 2), 5);
        Due.equal("3: watched() of the new gate", p.watched(), 16);
        Due.equal("3: value(5, 0) of the new gate", p.value(5, 0), 1);
        Due.equal("3: value(5, 2) of the new gate", p.value(5, 2), 0);
        p.watch(5, true);
        Due.equal("3: test(5, 1) of the new gate", p.test(5, 1), 2);
        Due.equal("3: test(1, 1) of the new gate", p.test(1, 1), 0);
    }

    private static void promise4Watch() {
        TestPatterns p = new TestPatterns();
        p.gate(AND, 0, 1);
        Due.equal("4: watch(5, true)", p.watch(5, true), true);
        Due.equal("4: watch(5, true) again", p.watch(5, true), true);
        Due.equal("4: watch(0, true)", p.watch(0, true), true);
        Due.equal("4: watched()", p.watched(), 33);
        Due.equal("4: watch(1, false), not watched", p.watch(1, false), true);
        Due.equal("4: watched()", p.watched(), 33);
        Due.equal("4: watch(5, false)", p.watch(5, false), true);
        Due.equal("4: watched()", p.watched(), 1);
        Due.equal("4: watch(6, true)", p.watch(6, true), false);
    }

    private static void promise5Lines() {
        TestPatterns p = new TestPatterns();
        for (int line = 5; line < 16; line++) {
            Due.equal("5: lines()", p.lines(), line);
            p.gate(XOR, 0, 1);
        }
        Due.equal("5: lines() when full", p.lines(), 16);
        p.gate(XOR, 0, 1);
        Due.equal("5: lines() after FULL", p.lines(), 16);
        p.drop();
        Due.equal("5: lines() after drop", p.lines(), 15);
    }

    private static void promise6Watched() {
        TestPatterns p = new TestPatterns();
        for (int line = 5; line < 16; line++) {
            p.gate(XOR, 0, 1);
        }
        for (int line = 0; line < 16; line++) {
            p.watch(line, true);
            Due.equal("6: watched() with 0 .. " + line, p.watched(), (2 << line) - 1);
        }
        for (int line = 0; line < 16; line++) {
            p.watch(line, false);
            Due.equal("6: watched() without 0 .. " + line, p.watched(), 0xFFFF & -(2 << line));
        }
    }

    private static void promise7Value() {
        TestPatterns p = new TestPatterns();
        p.gate(NAND, 0, 4);
        Due.equal("7: value(5, 17)", p.value(5, 17), 0);
        Due.equal("7: value(5, 16)", p.value(5, 16), 1);
        Due.equal("7: value(5, 31)", p.value(5, 31), 0);
        Due.equal("7: value(5, 0)", p.value(5, 0), 1);
        Due.equal("7: value(6, 0)", p.value(6, 0), NONE);
    }

    private static void promise8Shows() {
        TestPatterns p = new TestPatterns();
        p.gate(AND, 0, 1);
        p.watch(5, true);
        for (int vector = 0; vector < 32; vector++) {
            int low = vector & 3;
            Due.equal("8: shows(" + vector + ", 0, 0)", p.shows(vector, 0, 0), low == 3);
            Due.equal("8: shows(" + vector + ", 0, 1)", p.shows(vector, 0, 1), low == 2);
            Due.equal("8: shows(" + vector + ", 5, 0)", p.shows(vector, 5, 0), low == 3);
            Due.equal("8: shows(" + vector + ", 5, 1)", p.shows(vector, 5, 1), low != 3);
            Due.equal("8: shows(" + vector + ", 2, 0)", p.shows(vector, 2, 0), false);
        }
        p.drop();
        Due.equal("8: shows(3, 5, 0) after drop", p.shows(3, 5, 0), false);
        p.watch(0, true);
        Due.equal("8: shows(1, 0, 0), watched input", p.shows(1, 0, 0), true);
        Due.equal("8: shows(0, 0, 0), watched input", p.shows(0, 0, 0), false);
    }

    private static void promise8StuckLineIsReadAndWatched() {
        TestPatterns p = new TestPatterns();
        p.gate(AND, 0, 1);
        p.gate(NOT, 5, 0);
        p.gate(XOR, 5, 6);
        p.watch(7, true);
        // Line 7 is always 1: a stuck line 5 changes both that it reads, a stuck line 6 only one.
        Due.equal("8: shows(0, 5, 1)", p.shows(0, 5, 1), false);
        Due.equal("8: shows(0, 6, 0)", p.shows(0, 6, 0), true);
        Due.equal("8: shows(0, 7, 0)", p.shows(0, 7, 0), true);
        Due.equal("8: shows(0, 7, 1)", p.shows(0, 7, 1), false);
        p.watch(5, true);
        Due.equal("8: shows(0, 5, 1), 5 watched", p.shows(0, 5, 1), true);
        Due.equal("8: shows(3, 5, 1), 5 watched", p.shows(3, 5, 1), false);
        // A gate's own inputs keep their values when the gate is stuck.
        p.watch(0, true);
        p.watch(5, false);
        p.watch(7, false);
        Due.equal("8: shows(3, 5, 0), 0 watched", p.shows(3, 5, 0), false);
    }

    private static void promise9Test() {
        TestPatterns p = new TestPatterns();
        p.gate(AND, 0, 1);
        p.gate(AND, 5, 4);
        Due.equal("9: test(6, 1), nothing watched", p.test(6, 1), NONE);
        p.watch(6, true);
        Due.equal("9: test(0, 0)", p.test(0, 0), 19);
        Due.equal("9: test(0, 1)", p.test(0, 1), 18);
        Due.equal("9: test(4, 1)", p.test(4, 1), 3);
        Due.equal("9: test(5, 1)", p.test(5, 1), 16);
        Due.equal("9: test(6, 1)", p.test(6, 1), 0);
        Due.equal("9: test(2, 0)", p.test(2, 0), NONE);
        Due.equal("9: test(7, 0)", p.test(7, 0), NONE);
        p.gate(AND, 6, 2);
        p.gate(AND, 7, 3);
        p.watch(6, false);
        p.watch(8, true);
        Due.equal("9: test(8, 0), only the last vector", p.test(8, 0), 31);
    }

    private static void promise10TestFrom() {
        TestPatterns p = new TestPatterns();
        p.gate(AND, 0, 1);
        p.watch(5, true);
        for (int from = 0; from < 32; from++) {
            Due.equal("10: testFrom(5, 0, " + from + ")", p.testFrom(5, 0, from), from | 3);
        }
        Due.equal("10: testFrom(0, 1, 30)", p.testFrom(0, 1, 30), 30);
        Due.equal("10: testFrom(0, 1, 31)", p.testFrom(0, 1, 31), NONE);
        Due.equal("10: testFrom(2, 0, 0)", p.testFrom(2, 0, 0), NONE);
        Due.equal("10: testFrom(6, 0, 0)", p.testFrom(6, 0, 0), NONE);
    }

    private static void promise11Hidden() {
        TestPatterns p = new TestPatterns();
        Due.equal("11: hidden(0), nothing watched", p.hidden(0), 31);
        Due.equal("11: hidden(1), nothing watched", p.hidden(1), 31);
        p.gate(NOT, 0, 0);
        p.gate(AND, 0, 5);
        p.watch(6, true);
        // Line 6 is always 0, also when line 0 is stuck: only a stuck line 5 or 6 can make it 1.
        Due.equal("11: hidden(0)", p.hidden(0), 0b1111111);
        Due.equal("11: hidden(1)", p.hidden(1), 0b0011111);
        p.drop();
        p.watch(5, true);
        Due.equal("11: hidden(0) after drop", p.hidden(0), 0b011110);
        for (int line = 6; line < 16; line++) {
            p.gate(AND, 0, 0);
        }
        Due.equal("11: hidden(0) when full", p.hidden(0), 0xFFDE);
    }

    private static void promise12ShownBy() {
        TestPatterns p = new TestPatterns();
        Due.equal("12: shownBy(0), nothing watched", p.shownBy(0), 0);
        p.gate(AND, 0, 1);
        p.watch(5, true);
        // 0: 5 at 1; 1: 1 at 1, 5 at 1; 2: 0 at 1, 5 at 1; 3: 0, 1 and 5 at 0.
        int[] due = {1, 2, 2, 3};
        for (int vector = 0; vector < 32; vector++) {
            Due.equal("12: shownBy(" + vector + ")", p.shownBy(vector), due[vector & 3]);
        }
        for (int line = 6; line < 16; line++) {
            p.gate(AND, 0, 1);
        }
        for (int line = 0; line < 16; line++) {
            p.watch(line, true);
        }
        Due.equal("12: shownBy(31), all watched", p.shownBy(31), 16);
        p.drop();
        Due.equal("12: shownBy(31) after drop", p.shownBy(31), 15);
    }

    private static void promise13BestVector() {
        TestPatterns p = new TestPatterns();
        Due.equal("13: bestVector(), nothing watched", p.bestVector(), 0);
        p.watch(3, true);
        Due.equal("13: bestVector(), all the same", p.bestVector(), 0);
        p.gate(AND, 0, 1);
        p.watch(5, true);
        Due.equal("13: bestVector(), AND", p.bestVector(), 3);
        p.gate(AND, 5, 2);
        p.gate(AND, 6, 3);
        p.gate(AND, 7, 4);
        p.watch(5, false);
        p.watch(3, false);
        p.watch(8, true);
        Due.equal("13: bestVector(), AND of all", p.bestVector(), 31);
        p.gate(NOR, 0, 1);
        p.watch(8, false);
        p.watch(9, true);
        Due.equal("13: bestVector(), NOR", p.bestVector(), 0);
    }

    private static void promise14Alike() {
        TestPatterns p = new TestPatterns();
        p.gate(AND, 0, 1);
        p.gate(NOT, 5, 0);
        p.watch(6, true);
        Due.equal("14: alike(0, 0, 1, 0)", p.alike(0, 0, 1, 0), true);
        Due.equal("14: alike(0, 0, 5, 0)", p.alike(0, 0, 5, 0), true);
        Due.equal("14: alike(5, 0, 6, 1)", p.alike(5, 0, 6, 1), true);
        Due.equal("14: alike(6, 1, 5, 0)", p.alike(6, 1, 5, 0), true);
        Due.equal("14: alike(5, 0, 6, 0)", p.alike(5, 0, 6, 0), false);
        Due.equal("14: alike(0, 1, 1, 1)", p.alike(0, 1, 1, 1), false);
        Due.equal("14: alike(0, 1, 5, 1), some but not all", p.alike(0, 1, 5, 1), false);
        Due.equal("14: alike(5, 1, 0, 1), some but not all", p.alike(5, 1, 0, 1), false);
        Due.equal("14: alike(0, 1, 0, 1), the same fault", p.alike(0, 1, 0, 1), true);
        Due.equal("14: alike(0, 0, 0, 1)", p.alike(0, 0, 0, 1), false);
        Due.equal("14: alike(2, 0, 3, 1), never shown", p.alike(2, 0, 3, 1), true);
        Due.equal("14: alike(2, 0, 5, 0)", p.alike(2, 0, 5, 0), false);
        Due.equal("14: alike(7, 0, 7, 0)", p.alike(7, 0, 7, 0), false);
    }

    private static void promise15Ones() {
        TestPatterns p = new TestPatterns();
        for (int line = 0; line < 5; line++) {
            Due.equal("15: ones(" + line + ")", p.ones(line), 16);
        }
        p.gate(XOR, 0, 0);
        p.gate(NOT, 5, 0);
        p.gate(AND, 0, 1);
        p.gate(OR, 7, 4);
        Due.equal("15: ones(5), always 0", p.ones(5), 0);
        Due.equal("15: ones(6), always 1", p.ones(6), 32);
        Due.equal("15: ones(7)", p.ones(7), 8);
        Due.equal("15: ones(8)", p.ones(8), 20);
        Due.equal("15: ones(9)", p.ones(9), NONE);
        p.drop();
        Due.equal("15: ones(8) after drop", p.ones(8), NONE);
    }

    private static void questionsChangeNothing() {
        TestPatterns p = new TestPatterns();
        p.gate(AND, 0, 1);
        p.gate(OR, 5, 2);
        p.watch(6, true);
        for (int turn = 0; turn < 2; turn++) {
            p.hidden(0);
            p.hidden(1);
            p.bestVector();
            p.alike(5, 0, 5, 1);
            sameCircuit(p);
        }
    }

    private static void sameCircuit(TestPatterns p) {
        Due.equal("after questions: lines()", p.lines(), 7);
        Due.equal("after questions: watched()", p.watched(), 64);
        for (int vector = 0; vector < 32; vector++) {
            int five = vector & vector >> 1 & 1;
            int six = five | vector >> 2 & 1;
            Due.equal("after questions: value(5, " + vector + ")", p.value(5, vector), five);
            Due.equal("after questions: value(6, " + vector + ")", p.value(6, vector), six);
        }
        Due.equal("after questions: test(5, 0)", p.test(5, 0), 3);
        Due.equal("after questions: test(2, 0)", p.test(2, 0), 4);
        Due.equal("after questions: hidden(0)", p.hidden(0), 0b0011000);
    }
}
