/**
 * Compares long runs of calls with a second circuit that is worked out one vector and one fault at
 * a time. The runs are made from fixed numbers, so every run of this test is the same.
 */
public final class ModelTest {
    private static final int RUNS = 200;
    private static final int CALLS = 512;

    private long state;
    private TestPatterns p;
    private int count;
    private final int[] kind = new int[16];
    private final int[] x = new int[16];
    private final int[] y = new int[16];
    private final boolean[] seen = new boolean[16];

    public static void main(String[] args) {
        for (int run = 0; run < RUNS && !Due.anyWrong(); run++) {
            new ModelTest().run(run);
        }
        Due.end();
    }

    private void run(int run) {
        state = run * 7919L + 1;
        p = new TestPatterns();
        count = 5;
        for (int call = 0; call < CALLS && !Due.anyWrong(); call++) {
            // Building comes more often at first, so that most questions meet a circuit of some size.
            int choice = pick(call < 40 ? 8 : 24);
            one("run " + run + ", call " + call + ": ", choice);
        }
    }

    private int pick(int bound) {
        state = state * 6364136223846793005L + 1442695040888963407L;
        return (int) ((state >>> 33) % bound);
    }

    private int pickNear(int bound) {
        int turn = pick(16);
        if (turn == 0) {
            return bound + pick(3);
        }
        return turn == 1 ? -1 - pick(3) : pick(bound);
    }

    private void one(String at, int choice) {
        switch (choice) {
            case 0, 1, 2, 3 -> gate(at, pickNear(6), pickNear(count), pickNear(count));
            case 4, 5, 6 -> watch(at, pickNear(count), pick(3) != 0);
            case 7 -> {
                if (pick(3) == 0) {
                    drop(at);
                }
            }
            case 8 -> Due.equal(at + "lines()", p.lines(), count);
            case 9 -> Due.equal(at + "watched()", p.watched(), watchedBits());
            case 10, 11 -> value(at, pickNear(count), pickNear(32));
            case 12, 13 -> shows(at, pickNear(32), pickNear(count), pickNear(2));
            case 14 -> test(at, pickNear(count), pickNear(2));
            case 15, 16 -> testFrom(at, pickNear(count), pickNear(2), pickNear(32));
            case 17 -> hidden(at, pickNear(2));
            case 18 -> shownBy(at, pickNear(32));
            case 19 -> Due.equal(at + "bestVector()", p.bestVector(), best());
            case 20, 21, 22 -> alike(at, pickNear(count), pickNear(2), pickNear(count), pickNear(2));
            default -> ones(at, pickNear(count));
        }
    }

    private void gate(String at, int k, int a, int b) {
        int due;
        if (k < 0 || k > 5 || !there(a) || k != 5 && !there(b)) {
            due = -1;
        } else if (count == 16) {
            due = -2;
        } else {
            kind[count] = k;
            x[count] = a;
            y[count] = b;
            seen[count] = false;
            due = count++;
        }
        Due.equal(at + "gate(" + k + ", " + a + ", " + b + ")", p.gate(k, a, b), due);
    }

    private void drop(String at) {
        Due.equal(at + "drop()", p.drop(), count == 5 ? -1 : --count);
    }

    private void watch(String at, int line, boolean on) {
        if (there(line)) {
            seen[line] = on;
        }
        Due.equal(at + "watch(" + line + ", " + on + ")", p.watch(line, on), there(line));
    }

    private void value(String at, int line, int vector) {
        int due = there(line) && vector >= 0 && vector < 32 ? (holds(line, vector, -1, false) ? 1 : 0) : -1;
        Due.equal(at + "value(" + line + ", " + vector + ")", p.value(line, vector), due);
    }

    private void shows(String at, int vector, int line, int v) {
        boolean due = vector >= 0 && vector < 32 && fault(line, v) && shown(vector, line, v);
        Due.equal(at + "shows(" + vector + ", " + line + ", " + v + ")", p.shows(vector, line, v), due);
    }

    private void test(String at, int line, int v) {
        Due.equal(at + "test(" + line + ", " + v + ")", p.test(line, v), least(line, v, 0));
    }

    private void testFrom(String at, int line, int v, int from) {
        Due.equal(at + "testFrom(" + line + ", " + v + ", " + from + ")", p.testFrom(line, v, from), least(line, v, from));
    }

    private void hidden(String at, int v) {
        int due = 0;
        for (int line = 0; line < count; line++) {
            if ((v == 0 || v == 1) && least(line, v, 0) == -1) {
                due += 1 << line;
            }
        }
        Due.equal(at + "hidden(" + v + ")", p.hidden(v), due);
    }

    private void shownBy(String at, int vector) {
        int due = vector >= 0 && vector < 32 ? faultsShown(vector) : -1;
        Due.equal(at + "shownBy(" + vector + ")", p.shownBy(vector), due);
    }

    private void alike(String at, int a, int v, int b, int w) {
        boolean due = fault(a, v) && fault(b, w);
        for (int vector = 0; due && vector < 32; vector++) {
            due = shown(vector, a, v) == shown(vector, b, w);
        }
        Due.equal(at + "alike(" + a + ", " + v + ", " + b + ", " + w + ")", p.alike(a, v, b, w), due);
    }

    private void ones(String at, int line) {
        int due = there(line) ? 0 : -1;
        for (int vector = 0; there(line) && vector < 32; vector++) {
            due += holds(line, vector, -1, false) ? 1 : 0;
        }
        Due.equal(at + "ones(" + line + ")", p.ones(line), due);
    }

    private boolean there(int line) {
        return line >= 0 && line < count;
    }

    private boolean fault(int line, int v) {
        return there(line) && (v == 0 || v == 1);
    }

    private int watchedBits() {
        int bits = 0;
        for (int line = 0; line < count; line++) {
            bits += seen[line] ? 1 << line : 0;
        }
        return bits;
    }

    private boolean holds(int line, int vector, int stuckLine, boolean stuckAt) {
        boolean[] now = new boolean[16];
        for (int i = 0; i <= line; i++) {
            if (i == stuckLine) {
                now[i] = stuckAt;
            } else if (i < 5) {
                now[i] = vector / (1 << i) % 2 == 1;
            } else {
                now[i] = output(kind[i], now[x[i]], kind[i] != 5 && now[y[i]]);
            }
        }
        return now[line];
    }

    private static boolean output(int k, boolean a, boolean b) {
        return switch (k) {
            case 0 -> a && b;
            case 1 -> a || b;
            case 2 -> a != b;
            case 3 -> !(a && b);
            case 4 -> !(a || b);
            default -> !a;
        };
    }

    private boolean shown(int vector, int line, int v) {
        for (int i = 0; i < count; i++) {
            if (seen[i] && holds(i, vector, line, v == 1) != holds(i, vector, -1, false)) {
                return true;
            }
        }
        return false;
    }

    private int least(int line, int v, int from) {
        if (!fault(line, v)) {
            return -1;
        }
        for (int vector = 0; vector < 32; vector++) {
            if (vector >= from && shown(vector, line, v)) {
                return vector;
            }
        }
        return -1;
    }

    private int faultsShown(int vector) {
        int faults = 0;
        for (int line = 0; line < count; line++) {
            faults += shown(vector, line, 0) ? 1 : 0;
            faults += shown(vector, line, 1) ? 1 : 0;
        }
        return faults;
    }

    private int best() {
        int best = 31;
        for (int vector = 31; vector >= 0; vector--) {
            if (faultsShown(vector) >= faultsShown(best)) {
                best = vector;
            }
        }
        return best;
    }
}
