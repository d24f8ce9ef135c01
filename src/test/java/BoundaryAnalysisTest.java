/** The boundary cases of what holds in all ways, a method for each sentence: Terms, promises 14 to 16 and 17. */
public final class BoundaryAnalysisTest {
    private static final int BAD = NetlistBench.BAD;
    private static final int OPEN = NetlistBench.OPEN;

    public static void main(String[] args) {
        supportOfSources();
        supportNothingBehindARegister();
        openByMemory();
        openByWidth();
        openWhateverIsForced();
        equivalentWhateverTheyHave();
        equivalentAtOneWayOnly();
        equivalentForced();
        equivalentNoSignal();
        equivalentWidths();
        equivalentBadBeforeOpen();
        equivalentMemoryInOne();
        equivalentWidthsTogether();
        satisfiedWays();
        satisfiedNoSignal();
        satisfiedOpen();
        satisfiedForced();
        satisfiedForcedSupport();
        nothingChanges();
        depthOfSources();
        depthGreatest();
        depthNoSignal();
        depthBehindARegister();
        Check.end();
    }

    private static int top(int width) {
        return (1 << width) - 1;
    }

    private static void supportOfSources() {
        Check.sentence("Terms",
            "The SUPPORT of a signal is the inputs and registers to which one comes from it over operands "
            + "(itself, if it is one");
        for (int width = 1; width <= 6; width++) {
            NetlistBench x = new NetlistBench();
            x.signal(0, width, 0, 0);
            x.signal(2, width, 0, 0);
            x.signal(1, width, 1, 0);
            Check.due("an input has itself", x.satisfied(0), top(width));
            Check.due("a register has itself", x.satisfied(1), top(width));
            Check.due("a constant has none", x.satisfied(2), 1);
        }
        for (int kind = 3; kind <= 17; kind++) {
            NetlistBench x = Circuits.everyKind();
            x.force(kind, 1);
            Check.due("the support of kind " + kind + " over an input of width 2", x.satisfied(kind), 4);
        }
    }

    private static void supportNothingBehindARegister() {
        Check.sentence("Terms", "of a register nothing behind it");
        NetlistBench x = new NetlistBench();
        x.signal(0, 6, 0, 0);
        x.signal(0, 3, 0, 0);
        x.signal(15, 1, 1, 0);
        x.signal(5, 0, 2, 0);
        x.signal(2, 6, 0, 0);
        x.signal(16, 0, 0, 2);
        x.signal(18, 5, 0, 0);
        x.signal(2, 4, 0, 0);
        x.signal(16, 0, 0, 1);
        x.connect(4, 3, 8);
        x.connect(7, 6, 8);
        Check.due("the next signal alone is open", x.satisfied(3), OPEN);
        Check.due("its register is not", x.satisfied(4), 63);
        Check.due("a word is open", x.satisfied(6), OPEN);
        Check.due("its register is not", x.satisfied(7), 15);
        Check.due("a register and itself", x.equivalent(4, 4), 1);
    }

    private static void openByMemory() {
        Check.sentence("Terms", "it is OPEN iff one comes to a signal of kind 18 as well");
        NetlistBench x = new NetlistBench();
        x.signal(1, 2, 0, 0);
        x.signal(18, 0, 0, 0);
        x.signal(16, 1, 3, 1);
        x.signal(12, 2, 0, 0);
        x.signal(18, 3, 0, 0);
        Check.due("the place of the word", x.satisfied(0), 0);
        for (int s = 1; s <= 4; s++) {
            Check.due("satisfied(" + s + ")", x.satisfied(s), OPEN);
            Check.due("equivalent(" + s + ", " + s + ")", x.equivalent(s, s), OPEN);
        }
        Check.due("beside it nothing is open", x.equivalent(0, 0), 1);
        int[][] calls = {{12, 2, 5, 5}, {12, 5, 2, 5}, {12, 5, 5, 2}, {4, 2, 5, 0}, {4, 5, 2, 0}, {15, 5, 2, 0},
            {3, 2, 0, 0}, {17, 2, 0, 0}, {13, 2, 0, 0}, {14, 5, 3, 0}, {11, 5, 2, 0}};
        for (int[] call : calls) {
            NetlistBench y = new NetlistBench();
            y.signal(1, 2, 0, 0);
            y.signal(18, 0, 0, 0);
            y.signal(16, 1, 0, 1);
            y.signal(16, 1, 0, 2);
            y.signal(1, 2, 0, 0);
            y.signal(1, 1, 0, 0);
            Check.due("kind " + call[0] + " is made", y.signal(call[0], call[1], call[2], call[3]), 6);
            Check.due("a word behind an operand of kind " + call[0], y.satisfied(6), OPEN);
        }
    }

    /** From signal 6 one comes to two signals of the kind, of widths a and b, and to one of width c. */
    private static NetlistBench over(int kind, int a, int b, int c) {
        NetlistBench x = new NetlistBench();
        x.signal(kind, a, 0, 0);
        x.signal(kind, b, 0, 0);
        x.signal(2 - kind, c, 0, 0);
        x.signal(16, 0, 0, 1);
        x.signal(16, 1, 0, 1);
        x.signal(16, 2, 0, 1);
        x.signal(12, 3, 4, 5);
        return x;
    }

    private static void openByWidth() {
        Check.sentence("Terms", "or the widths of its support together are more than 8");
        for (int kind = 0; kind <= 2; kind += 2) {
            for (int a = 1; a <= 6; a++) {
                for (int b = 1; b <= 6; b++) {
                    for (int c = 1; c <= 6; c++) {
                        NetlistBench x = over(kind, a, b, c);
                        int sum = a + b + c;
                        String at = "widths " + a + ", " + b + " and " + c;
                        Check.due(at + ": half of the ways", x.satisfied(6), sum > 8 ? OPEN : 1 << sum - 1);
                        Check.due(at + ": and itself", x.equivalent(6, 6), sum > 8 ? OPEN : 1);
                    }
                }
            }
        }
    }

    private static void openWhateverIsForced() {
        Check.sentence("Terms", "(Forcing plays no part in it.)");
        NetlistBench x = over(0, 3, 3, 3);
        for (int s = 0; s <= 6; s++) {
            x.force(s, 1);
        }
        Check.due("9 with all forced", x.satisfied(6), OPEN);
        Check.due("9 with all forced", x.equivalent(6, 5), OPEN);
        NetlistBench y = over(0, 3, 3, 2);
        y.force(6, 1);
        Check.due("8 forced", y.satisfied(6), 256);
        NetlistBench z = new NetlistBench();
        z.signal(1, 2, 0, 0);
        z.signal(18, 0, 0, 0);
        z.signal(3, 1, 0, 0);
        z.force(0, 1);
        z.force(1, 1);
        z.force(2, 1);
        Check.due("a forced word", z.satisfied(1), OPEN);
        Check.due("forced behind a word", z.satisfied(2), OPEN);
        Check.due("a forced word", z.equivalent(1, 2), OPEN);
    }

    private static void equivalentWhateverTheyHave() {
        Check.sentence("Promise 14",
            "Whether two signals of the same width have the same value whatever inputs and registers have "
            + "[..]: 1 or 0.");
        for (int kind = 0; kind <= 2; kind += 2) {
            NetlistBench x = new NetlistBench();
            x.signal(kind, 4, 0, 0);
            x.signal(kind, 4, 0, 0);
            x.signal(1, 4, 0, 0);
            x.signal(7, 0, 1, 0);
            x.signal(8, 3, 1, 0);
            x.signal(8, 0, 0, 0);
            Check.due("the same at this time only", x.equivalent(0, 1), 0);
            Check.due("the constant 0 and one that has 0 now", x.equivalent(2, 0), 0);
            Check.due("wrapping round and back", x.equivalent(4, 0), 1);
            Check.due("always 0", x.equivalent(5, 2), 1);
            for (int s = 0; s <= 5; s++) {
                Check.due("a signal and itself", x.equivalent(s, s), 1);
            }
            x.drive(0, 9);
            Check.due("different at this time", x.equivalent(4, 0), 1);
        }
    }

    /** A signal that is 1 for one of the 256 ways alone, the first and the last among them. */
    private static void equivalentAtOneWayOnly() {
        Check.sentence("Promise 14", "have the same value whatever inputs and registers have");
        for (int way : new int[] {0, 1, 15, 16, 127, 128, 240, 254, 255}) {
            NetlistBench x = new NetlistBench();
            x.signal(0, 4, 0, 0);
            x.signal(2, 4, 0, 0);
            x.signal(1, 4, way & 15, 0);
            x.signal(1, 4, way >> 4, 0);
            x.signal(11, 0, 2, 0);
            x.signal(11, 1, 3, 0);
            x.signal(4, 4, 5, 0);
            x.signal(1, 1, 0, 0);
            x.signal(3, 6, 0, 0);
            Check.due("different at " + way + " alone", x.equivalent(6, 7), 0);
            Check.due("different at " + way + " alone", x.equivalent(7, 6), 0);
            Check.due("not 0 at " + way + " alone", x.satisfied(6), 1);
            Check.due("0 at " + way + " alone", x.satisfied(8), 255);
        }
    }

    private static void equivalentForced() {
        Check.sentence("Promise 14", "(a forced signal has what it is forced to)");
        for (int kind = 0; kind <= 2; kind++) {
            NetlistBench x = new NetlistBench();
            x.signal(kind, 6, 0, 0);
            x.signal(1, 6, 63, 0);
            x.signal(3, 0, 0, 0);
            x.signal(1, 6, 0, 0);
            x.force(0, 63);
            Check.due("forced to the greatest number", x.equivalent(0, 1), 1);
            Check.due("what uses it", x.equivalent(2, 3), 1);
            x.force(0, 0);
            Check.due("forced to 0", x.equivalent(0, 3), 1);
            x.force(2, 0);
            Check.due("a gate forced to 0", x.equivalent(2, 0), 1);
            x.force(0, -1);
            Check.due("no longer forced", x.equivalent(0, 3), kind == 1 ? 1 : 0);
        }
    }

    private static void equivalentNoSignal() {
        Check.sentence("Promise 14", "one is no signal [..]: BAD");
        NetlistBench x = Circuits.inputs(4, 4);
        for (int s : new int[] {-2, -1, 2, 3}) {
            dueBad(x, s);
        }
        for (int s : Circuits.FAR) {
            dueBad(x, s);
        }
        Check.due("both are signals", x.equivalent(0, 1), 0);
    }

    private static void dueBad(NetlistBench x, int s) {
        Check.due("equivalent(" + s + ", 0)", x.equivalent(s, 0), BAD);
        Check.due("equivalent(1, " + s + ")", x.equivalent(1, s), BAD);
        Check.due("equivalent(" + s + ", " + s + ")", x.equivalent(s, s), BAD);
    }

    private static void equivalentWidths() {
        Check.sentence("Promise 14", "or the widths are different: BAD");
        NetlistBench x = new NetlistBench();
        for (int i = 0; i < 12; i++) {
            x.signal(1, i % 6 + 1, 1, 0);
        }
        for (int s = 0; s < 12; s++) {
            for (int t = 0; t < 12; t++) {
                Check.due("equivalent(" + s + ", " + t + ")", x.equivalent(s, t), s % 6 == t % 6 ? 1 : BAD);
            }
        }
    }

    private static void equivalentBadBeforeOpen() {
        Check.sentence("Promise 14",
            "Tested in this order: one is no signal, or the widths are different: BAD; the support of both "
            + "together is open [..]: OPEN.");
        NetlistBench x = new NetlistBench();
        x.signal(0, 6, 0, 0);
        x.signal(0, 5, 0, 0);
        x.signal(0, 6, 0, 0);
        x.signal(16, 0, 0, 2);
        x.signal(18, 3, 0, 0);
        Check.due("11 together, widths different", x.equivalent(0, 1), BAD);
        Check.due("12 together", x.equivalent(0, 2), OPEN);
        Check.due("a word and another width", x.equivalent(4, 0), BAD);
        Check.due("another width and a word", x.equivalent(0, 4), BAD);
        Check.due("a word and no signal", x.equivalent(4, 5), BAD);
        Check.due("no signal and a word", x.equivalent(-1, 4), BAD);
        Check.due("a word and itself", x.equivalent(4, 4), OPEN);
    }

    private static void equivalentMemoryInOne() {
        Check.sentence("Promise 14", "one of them comes to kind 18");
        NetlistBench x = new NetlistBench();
        x.signal(1, 2, 1, 0);
        x.signal(18, 0, 0, 0);
        x.signal(1, 4, 0, 0);
        x.signal(18, 0, 0, 0);
        Check.due("the first", x.equivalent(1, 2), OPEN);
        Check.due("the second", x.equivalent(2, 1), OPEN);
        Check.due("both", x.equivalent(1, 3), OPEN);
        Check.due("neither", x.equivalent(2, 2), 1);
    }

    private static void equivalentWidthsTogether() {
        Check.sentence("Promise 14", "or the widths of all signals in either support are more than 8 together");
        for (int kind = 0; kind <= 2; kind += 2) {
            for (int a = 1; a <= 6; a++) {
                for (int b = 1; b <= 6; b++) {
                    NetlistBench x = new NetlistBench();
                    x.signal(kind, a, 0, 0);
                    x.signal(2 - kind, b, 0, 0);
                    x.signal(16, 0, 0, 1);
                    x.signal(16, 1, 0, 1);
                    int want = a + b > 8 ? OPEN : 0;
                    Check.due("widths " + a + " and " + b, x.equivalent(2, 3), want);
                    Check.due("widths " + b + " and " + a, x.equivalent(3, 2), want);
                    Check.due("the first alone", x.equivalent(2, 2), 1);
                    Check.due("the second alone", x.equivalent(3, 3), 1);
                }
            }
        }
        NetlistBench y = Circuits.inputs(4, 4);
        y.signal(7, 0, 1, 0);
        y.signal(7, 1, 0, 0);
        Check.due("signals in both supports count once", y.equivalent(2, 3), 1);
    }

    private static void satisfiedWays() {
        Check.sentence("Promise 15",
            "For how many of the 2^b ways to give the signals of its support values (b: their widths "
            + "together) a signal is not 0.");
        NetlistBench x = new NetlistBench();
        x.signal(0, 4, 0, 0);
        x.signal(2, 4, 9, 0);
        x.signal(8, 0, 0, 0);
        x.signal(1, 6, 0, 0);
        x.signal(1, 6, 63, 0);
        x.signal(5, 0, 1, 0);
        x.signal(11, 0, 1, 0);
        x.signal(3, 2, 0, 0);
        x.signal(7, 7, 2, 0);
        Check.due("never", x.satisfied(2), 0);
        Check.due("b is 0, the constant 0", x.satisfied(3), 0);
        Check.due("b is 0, another constant", x.satisfied(4), 1);
        Check.due("b is 8, all ways but one", x.satisfied(5), 255);
        Check.due("b is 8, one in 16", x.satisfied(6), 16);
        Check.due("always, b is 4", x.satisfied(7), 16);
        Check.due("always, over the same input", x.satisfied(8), 16);
        x.drive(0, 15);
        x.clock(1);
        Check.due("what they have now does not count", x.satisfied(5), 255);
    }

    private static void satisfiedNoSignal() {
        Check.sentence("Promise 15", "s is no signal: BAD");
        NetlistBench x = Circuits.inputs(6, 6);
        for (int s = -3; s <= 4; s++) {
            Check.due("satisfied(" + s + ")", x.satisfied(s), s == 0 || s == 1 ? 63 : BAD);
        }
        for (int s : Circuits.FAR) {
            Check.due("satisfied(" + s + ")", x.satisfied(s), BAD);
        }
    }

    private static void satisfiedOpen() {
        Check.sentence("Promise 15", "Tested in this order: s is no signal: BAD; its support is open: OPEN.");
        NetlistBench x = Circuits.inputs(6, 2, 1);
        x.signal(16, 0, 0, 2);
        x.signal(5, 3, 1, 0);
        x.signal(15, 4, 2, 0);
        x.signal(18, 1, 0, 0);
        Check.due("8 together", x.satisfied(4), 256 - 16);
        Check.due("9 together", x.satisfied(5), OPEN);
        Check.due("a word", x.satisfied(6), OPEN);
        Check.due("no signal", x.satisfied(7), BAD);
    }

    private static void satisfiedForced() {
        Check.sentence("Promise 17", "satisfied: a forced signal has what it is forced to, as in equivalent");
        NetlistBench x = Circuits.inputs(4, 4);
        x.signal(4, 0, 1, 0);
        x.signal(3, 2, 0, 0);
        x.signal(1, 6, 0, 0);
        x.force(2, 15);
        Check.due("a forced gate", x.satisfied(2), 256);
        Check.due("what uses it", x.satisfied(3), 0);
        x.force(2, 0);
        Check.due("a gate forced to 0", x.satisfied(2), 0);
        Check.due("what uses it", x.satisfied(3), 256);
        x.force(4, 63);
        Check.due("a forced constant", x.satisfied(4), 1);
        x.force(2, -1);
        x.force(4, -1);
        Check.due("no longer forced", x.satisfied(2), 256 - 81);
        Check.due("no longer forced", x.satisfied(4), 0);
    }

    private static void satisfiedForcedSupport() {
        Check.sentence("Promise 17",
            "a forced input or register of the support counts in b, and its values in the ways, all the same");
        for (int kind = 0; kind <= 2; kind += 2) {
            for (int width = 1; width <= 6; width++) {
                NetlistBench x = new NetlistBench();
                x.signal(kind, width, 0, 0);
                x.signal(3, 0, 0, 0);
                x.force(0, top(width));
                Check.due("forced to the greatest of width " + width, x.satisfied(0), 1 << width);
                Check.due("what uses it", x.satisfied(1), 0);
                x.force(0, 0);
                Check.due("forced to 0", x.satisfied(0), 0);
                Check.due("what uses it", x.satisfied(1), 1 << width);
            }
            NetlistBench y = new NetlistBench();
            y.signal(kind, 4, 0, 0);
            y.signal(0, 4, 0, 0);
            y.signal(4, 0, 1, 0);
            y.force(0, 8);
            Check.due("16 times 8 ways", y.satisfied(2), 128);
            y.force(1, 8);
            Check.due("all forced: 256 ways", y.satisfied(2), 256);
        }
    }

    private static void nothingChanges() {
        Check.sentence("Not promised", "Nothing is promised beyond the answers and state changes described above");
        NetlistBench x = Circuits.inputs(4);
        x.signal(2, 4, 6, 0);
        x.signal(7, 0, 1, 0);
        x.connect(1, 2, -1);
        x.drive(0, 3);
        x.clock(1);
        x.satisfied(2);
        x.equivalent(2, 1);
        x.depth(2);
        Check.due("the input", x.peek(0), 3);
        Check.due("the register", x.peek(1), 9);
        Check.due("the sum", x.peek(2), 12);
        x.satisfied(1);
        Check.due("9 to 12", x.clock(1), 2);
        x.equivalent(0, 1);
        x.back();
        Check.due("the note", x.peek(1), 6);
    }

    private static void depthOfSources() {
        Check.sentence("Promise 16",
            "The greatest number of signals of kinds other than 0, 1 and 2 on a way over operands that ends "
            + "in s, s among them");
        NetlistBench x = Circuits.everyKind();
        for (int s = 0; s <= 18; s++) {
            int want = s <= 2 ? 0 : s == 12 || s == 17 ? 2 : 1;
            Check.due("depth of kind " + s, x.depth(s), want);
            x.force(s, 0);
            Check.due("depth of kind " + s + ", forced", x.depth(s), want);
        }
    }

    private static void depthGreatest() {
        Check.sentence("Promise 16", "The greatest number of signals [..] on a way over operands that ends in s");
        NetlistBench x = new NetlistBench();
        x.signal(0, 1, 0, 0);
        for (int s = 1; s <= 23; s++) {
            x.signal(3, s - 1, 0, 0);
            Check.due("a row of " + s, x.depth(s), s);
        }
        int[][] calls = {{12, 3, 0, 0}, {12, 0, 3, 0}, {12, 0, 0, 3}, {12, 3, 2, 1}, {12, 1, 2, 3}, {12, 2, 3, 1},
            {4, 3, 0, 0}, {4, 0, 3, 0}, {15, 2, 3, 0}, {15, 3, 1, 0}, {12, 3, 3, 3}};
        for (int[] call : calls) {
            NetlistBench y = Circuits.inputs(1);
            y.signal(3, 0, 0, 0);
            y.signal(3, 1, 0, 0);
            y.signal(3, 2, 0, 0);
            y.signal(call[0], call[1], call[2], call[3]);
            Check.due("kind " + call[0] + " over " + call[1] + ", " + call[2] + ", " + call[3], y.depth(4), 4);
        }
    }

    private static void depthNoSignal() {
        Check.sentence("Promise 16", "BAD if there is no signal s.");
        NetlistBench x = Circuits.inputs(1, 1);
        for (int s = -3; s <= 4; s++) {
            Check.due("depth(" + s + ")", x.depth(s), s == 0 || s == 1 ? 0 : BAD);
        }
        for (int s : Circuits.FAR) {
            Check.due("depth(" + s + ")", x.depth(s), BAD);
        }
    }

    private static void depthBehindARegister() {
        Check.sentence("Promise 16", "(Nothing behind a register counts.)");
        NetlistBench x = Circuits.inputs(1);
        x.signal(3, 0, 0, 0);
        x.signal(3, 1, 0, 0);
        x.signal(2, 1, 0, 0);
        x.signal(3, 3, 0, 0);
        x.connect(3, 2, 2);
        Check.due("a register with a next signal of depth 2", x.depth(3), 0);
        Check.due("a gate over it", x.depth(4), 1);
        x.connect(3, 4, 4);
        Check.due("a register over itself", x.depth(3), 0);
        Check.due("a gate over it", x.depth(4), 1);
    }
}
