/** Promises 14, 15 and 16, and what promise 17 says of satisfied. */
public final class AnalysisTest {
    private static final int BAD = NetlistBench.BAD;
    private static final int OPEN = NetlistBench.OPEN;

    public static void main(String[] args) {
        equalForms();
        oneDifferenceIsEnough();
        equivalentRefuses();
        equivalentOpens();
        equivalentForced();
        counting();
        satisfiedRefuses();
        satisfiedOpens();
        satisfiedForced();
        supportEndsAtRegisters();
        supportGoesOverAllOperands();
        nothingIsChanged();
        depths();
        depthOfEveryKind();
        Check.end();
    }

    /** 0 and 1 are inputs of the width. */
    private static NetlistBench twoInputs(int width) {
        NetlistBench x = new NetlistBench();
        x.signal(0, width, 0, 0);
        x.signal(0, width, 0, 0);
        return x;
    }

    private static void equalForms() {
        NetlistBench x = twoInputs(4);
        x.signal(4, 0, 1, 0);
        x.signal(3, 2, 0, 0);
        x.signal(3, 0, 0, 0);
        x.signal(3, 1, 0, 0);
        x.signal(5, 4, 5, 0);
        x.signal(7, 0, 1, 0);
        x.signal(8, 7, 1, 0);
        x.signal(6, 0, 1, 0);
        Check.due("de Morgan", x.equivalent(3, 6), 1);
        Check.due("the other way round", x.equivalent(6, 3), 1);
        Check.due("(a + b) - b and a", x.equivalent(8, 0), 1);
        Check.due("a signal and itself", x.equivalent(7, 7), 1);
        Check.due("sum and exclusive or", x.equivalent(7, 9), 0);
        Check.due("two inputs", x.equivalent(0, 1), 0);
        NetlistBench y = new NetlistBench();
        y.signal(2, 3, 5, 0);
        y.signal(1, 3, 5, 0);
        y.signal(1, 3, 5, 0);
        y.signal(1, 3, 4, 0);
        Check.due("a register and its first value", y.equivalent(0, 1), 0);
        Check.due("equal constants", y.equivalent(1, 2), 1);
        Check.due("different constants", y.equivalent(1, 3), 0);
    }

    private static void oneDifferenceIsEnough() {
        for (int odd = 0; odd < 256; odd += 17) {
            NetlistBench x = twoInputs(4);
            x.signal(1, 4, odd >> 4, 0);
            x.signal(1, 4, odd & 15, 0);
            x.signal(11, 0, 2, 0);
            x.signal(11, 1, 3, 0);
            x.signal(4, 4, 5, 0);
            x.signal(1, 1, 0, 0);
            Check.due("different at " + odd + " alone", x.equivalent(6, 7), 0);
            Check.due("not 0 at " + odd + " alone", x.satisfied(6), 1);
        }
    }

    private static void equivalentRefuses() {
        NetlistBench x = new NetlistBench();
        x.signal(0, 6, 0, 0);
        x.signal(0, 5, 0, 0);
        x.signal(0, 6, 0, 0);
        for (int s : new int[] {3, 24, -1, Integer.MAX_VALUE, Integer.MIN_VALUE}) {
            Check.due("equivalent(" + s + ", 0)", x.equivalent(s, 0), BAD);
            Check.due("equivalent(0, " + s + ")", x.equivalent(0, s), BAD);
            Check.due("equivalent(" + s + ", " + s + ")", x.equivalent(s, s), BAD);
        }
        Check.due("different widths, before open", x.equivalent(0, 1), BAD);
        Check.due("open", x.equivalent(0, 2), OPEN);
    }

    private static void equivalentOpens() {
        NetlistBench x = new NetlistBench();
        x.signal(0, 4, 0, 0);
        x.signal(0, 4, 0, 0);
        x.signal(0, 1, 0, 0);
        x.signal(2, 4, 0, 0);
        x.signal(12, 2, 0, 1);
        x.signal(16, 0, 0, 2);
        x.signal(18, 5, 0, 0);
        x.signal(4, 6, 0, 0);
        x.signal(5, 0, 1, 0);
        x.signal(12, 2, 0, 0);
        Check.due("8 together", x.equivalent(0, 1), 0);
        Check.due("8 with a register", x.equivalent(0, 3), 0);
        Check.due("9 in one", x.equivalent(4, 0), OPEN);
        Check.due("9 in the other", x.equivalent(0, 4), OPEN);
        Check.due("9 and itself", x.equivalent(4, 4), OPEN);
        Check.due("12 over both", x.equivalent(8, 3), OPEN);
        Check.due("9 over both", x.equivalent(8, 9), OPEN);
        Check.due("what both have counts once", x.equivalent(8, 0), 0);
        Check.due("5 in all", x.equivalent(9, 0), 1);
        Check.due("memory and itself", x.equivalent(6, 6), OPEN);
        Check.due("memory further behind", x.equivalent(7, 0), OPEN);
        Check.due("memory further behind", x.equivalent(0, 7), OPEN);
        x.force(6, 3);
        x.force(7, 3);
        x.force(4, 3);
        Check.due("forcing plays no part", x.equivalent(6, 0), OPEN);
        Check.due("forcing plays no part", x.equivalent(0, 7), OPEN);
        Check.due("forcing plays no part", x.equivalent(4, 0), OPEN);
    }

    private static void equivalentForced() {
        NetlistBench x = twoInputs(4);
        x.signal(1, 4, 9, 0);
        x.signal(4, 0, 2, 0);
        x.force(0, 9);
        Check.due("a forced input and a constant", x.equivalent(0, 2), 1);
        Check.due("behind a forced input", x.equivalent(3, 2), 1);
        x.force(0, 8);
        Check.due("forced to another number", x.equivalent(0, 2), 0);
        x.force(2, 8);
        Check.due("a forced constant", x.equivalent(0, 2), 1);
        x.force(0, -1);
        Check.due("no longer forced", x.equivalent(0, 2), 0);
        x.force(3, 8);
        Check.due("a forced gate", x.equivalent(3, 2), 1);
        x.force(3, 0);
        x.force(1, 0);
        Check.due("both forced", x.equivalent(3, 1), 1);
        x.signal(2, 4, 0, 0);
        x.force(4, 0);
        Check.due("a forced register", x.equivalent(4, 1), 1);
    }

    private static void counting() {
        NetlistBench x = twoInputs(4);
        x.signal(10, 0, 1, 0);
        x.signal(11, 0, 1, 0);
        x.signal(4, 0, 1, 0);
        x.signal(7, 0, 1, 0);
        x.signal(1, 4, 0, 0);
        x.signal(1, 4, 3, 0);
        x.signal(2, 6, 0, 0);
        Check.due("an input of width 4", x.satisfied(0), 15);
        Check.due("less", x.satisfied(2), 120);
        Check.due("equal", x.satisfied(3), 16);
        Check.due("and", x.satisfied(4), 256 - 81);
        Check.due("sum", x.satisfied(5), 240);
        Check.due("the constant 0", x.satisfied(6), 0);
        Check.due("another constant", x.satisfied(7), 1);
        Check.due("a register of width 6", x.satisfied(8), 63);
    }

    private static void satisfiedRefuses() {
        NetlistBench x = twoInputs(4);
        for (int s : new int[] {2, 24, -1, Integer.MAX_VALUE, Integer.MIN_VALUE}) {
            Check.due("satisfied(" + s + ")", x.satisfied(s), BAD);
        }
    }

    private static void satisfiedOpens() {
        NetlistBench x = new NetlistBench();
        x.signal(0, 4, 0, 0);
        x.signal(2, 4, 0, 0);
        x.signal(5, 0, 1, 0);
        x.signal(0, 1, 0, 0);
        x.signal(12, 3, 0, 1);
        x.signal(1, 2, 1, 0);
        x.signal(18, 5, 0, 0);
        x.signal(16, 6, 0, 1);
        x.signal(3, 7, 0, 0);
        x.signal(16, 2, 0, 1);
        Check.due("support of 8", x.satisfied(2), 255);
        Check.due("support of 9", x.satisfied(4), OPEN);
        Check.due("memory", x.satisfied(6), OPEN);
        Check.due("memory behind", x.satisfied(7), OPEN);
        Check.due("memory further behind", x.satisfied(8), OPEN);
        Check.due("a slice has the whole support", x.satisfied(9), 192);
        x.force(6, 1);
        x.force(8, 1);
        x.force(4, 1);
        x.force(0, 1);
        Check.due("forcing plays no part", x.satisfied(6), OPEN);
        Check.due("forcing plays no part", x.satisfied(7), OPEN);
        Check.due("forcing plays no part", x.satisfied(8), OPEN);
        Check.due("forcing plays no part", x.satisfied(4), OPEN);
    }

    private static void satisfiedForced() {
        NetlistBench x = twoInputs(4);
        x.signal(4, 0, 1, 0);
        x.force(0, 1);
        Check.due("a forced input counts in the ways", x.satisfied(0), 16);
        Check.due("behind a forced input", x.satisfied(2), 16 * 8);
        x.force(0, 0);
        Check.due("forced to 0", x.satisfied(0), 0);
        Check.due("behind an input forced to 0", x.satisfied(2), 0);
        x.force(2, 5);
        Check.due("a forced gate", x.satisfied(2), 256);
        x.force(2, 0);
        Check.due("a gate forced to 0", x.satisfied(2), 0);
        x.signal(2, 3, 0, 0);
        x.force(3, 2);
        Check.due("a forced register", x.satisfied(3), 8);
        x.signal(1, 3, 0, 0);
        x.force(4, 2);
        Check.due("a forced constant", x.satisfied(4), 1);
    }

    private static void supportEndsAtRegisters() {
        NetlistBench x = new NetlistBench();
        x.signal(0, 6, 0, 0);
        x.signal(0, 6, 0, 0);
        x.signal(5, 0, 1, 0);
        x.signal(2, 6, 7, 0);
        x.connect(3, 2, -1);
        x.signal(3, 3, 0, 0);
        Check.due("nothing behind a register", x.satisfied(3), 63);
        Check.due("nor further on", x.satisfied(4), 63);
        Check.due("open before it", x.satisfied(2), OPEN);
    }

    private static void supportGoesOverAllOperands() {
        int[][] calls = {{12, 1, 0, 0}, {12, 0, 1, 0}, {12, 0, 0, 1}};
        for (int[] call : calls) {
            NetlistBench x = twoInputs(1);
            x.signal(call[0], call[1], call[2], call[3]);
            x.force(2, 1);
            Check.due("a support of both inputs", x.satisfied(2), 4);
        }
        for (int kind : new int[] {4, 5, 6, 7, 8, 9, 10, 11, 15}) {
            NetlistBench x = twoInputs(2);
            x.signal(kind, 0, 1, 0);
            x.force(2, 1);
            Check.due("support of kind " + kind, x.satisfied(2), 16);
        }
        for (int kind : new int[] {13, 14}) {
            NetlistBench x = twoInputs(2);
            x.signal(kind, 0, 1, 0);
            x.force(2, 1);
            Check.due("support of kind " + kind, x.satisfied(2), 16);
        }
        for (int kind : new int[] {3, 16, 17}) {
            NetlistBench x = twoInputs(3);
            x.signal(kind, 0, 1, 1);
            x.force(2, 1);
            Check.due("support of kind " + kind, x.satisfied(2), 8);
        }
    }

    private static void nothingIsChanged() {
        NetlistBench x = twoInputs(4);
        x.signal(2, 4, 5, 0);
        x.signal(7, 0, 2, 0);
        x.connect(2, 3, -1);
        x.drive(0, 3);
        x.drive(1, 9);
        x.clock(1);
        x.satisfied(3);
        x.equivalent(0, 1);
        x.equivalent(3, 0);
        Check.due("input", x.peek(0), 3);
        Check.due("input", x.peek(1), 9);
        Check.due("register", x.peek(2), 8);
        Check.due("sum", x.peek(3), 11);
        Check.due("8 to 11", x.clock(1), 2);
        Check.due("register", x.peek(2), 11);
        x.satisfied(2);
        x.back();
        Check.due("the note", x.peek(2), 5);
    }

    private static void depths() {
        NetlistBench x = new NetlistBench();
        x.signal(0, 2, 0, 0);
        x.signal(1, 2, 1, 0);
        x.signal(2, 2, 1, 0);
        x.signal(3, 0, 0, 0);
        x.signal(3, 3, 0, 0);
        x.signal(4, 4, 0, 0);
        x.signal(4, 0, 5, 0);
        x.signal(2, 2, 0, 0);
        x.connect(7, 6, -1);
        x.signal(3, 7, 0, 0);
        x.signal(11, 0, 1, 0);
        x.signal(12, 9, 6, 0);
        x.signal(12, 9, 0, 6);
        x.signal(18, 6, 0, 0);
        x.signal(16, 12, 0, 1);
        x.signal(12, 13, 0, 1);
        int[] want = {0, 0, 0, 1, 2, 3, 4, 0, 1, 1, 5, 5, 5, 6, 7};
        for (int s = 0; s < want.length; s++) {
            Check.due("depth(" + s + ")", x.depth(s), want[s]);
        }
        x.force(4, 0);
        Check.due("forcing plays no part", x.depth(6), 4);
        for (int s : new int[] {15, 24, -1, Integer.MAX_VALUE, Integer.MIN_VALUE}) {
            Check.due("depth(" + s + ")", x.depth(s), BAD);
        }
        NetlistBench y = new NetlistBench();
        y.signal(0, 1, 0, 0);
        for (int s = 1; s < 24; s++) {
            y.signal(3, s - 1, 0, 0);
        }
        Check.due("the longest way", y.depth(23), 23);
    }

    private static void depthOfEveryKind() {
        for (int kind = 3; kind <= 18; kind++) {
            NetlistBench x = twoInputs(2);
            x.signal(0, 1, 0, 0);
            int made = kind == 12 ? x.signal(12, 2, 0, 1) : x.signal(kind, 0, 1, 1);
            Check.due("kind " + kind, made, 3);
            Check.due("depth of kind " + kind, x.depth(3), 1);
        }
    }
}
