/** Promises 1 and 2, and what promise 17 says of signal. */
public final class SignalTest {
    private static final int BAD = NetlistBench.BAD;
    private static final int FULL = NetlistBench.FULL;
    private static final int MIN = Integer.MIN_VALUE;
    private static final int MAX = Integer.MAX_VALUE;

    public static void main(String[] args) {
        newObject();
        numbersAndFirstValues();
        wrongKinds();
        widthsOfSources();
        operandsOfEachKind();
        productWidth();
        joinedWidth();
        slices();
        unusedOperandsAreFree();
        resultWidths();
        costOfEachKind();
        costLimitEdges();
        stateWidthLimit();
        twentyFourSignals();
        everyCallWithTwentyFour();
        orderOfTests();
        refusedMakesNothing();
        Check.end();
    }

    private static void newObject() {
        NetlistBench x = new NetlistBench();
        Check.due("new: peek(0)", x.peek(0), BAD);
        Check.due("new: depth(0)", x.depth(0), BAD);
        Check.due("new: satisfied(0)", x.satisfied(0), BAD);
        Check.due("new: equivalent(0, 0)", x.equivalent(0, 0), BAD);
        Check.due("new: force(0, 0)", x.force(0, 0), false);
        Check.due("new: force(0, -1)", x.force(0, -1), false);
        Check.due("new: drive(0, 0)", x.drive(0, 0), false);
        Check.due("new: connect(0, 0, -1)", x.connect(0, 0, -1), false);
        Check.due("new: port(0, 0, 0)", x.port(0, 0, 0), false);
        Check.due("new: clock(40)", x.clock(40), 0);
        for (int place = 0; place < 4; place++) {
            Check.due("new: word(" + place + ")", x.word(place), 0);
        }
        x.keep();
        x.back();
        x.reset();
        Check.due("new: signal(0, 6, 0, 0)", x.signal(0, 6, 0, 0), 0);
        Check.due("new: nothing forced", x.peek(0), 0);
        NetlistBench other = new NetlistBench();
        Check.due("another new object has no signal", other.peek(0), BAD);
    }

    private static void numbersAndFirstValues() {
        NetlistBench x = new NetlistBench();
        Check.due("input", x.signal(0, 5, 0, 0), 0);
        Check.due("constant", x.signal(1, 5, 19, 0), 1);
        Check.due("register", x.signal(2, 5, 21, 0), 2);
        Check.due("constant of width 6", x.signal(1, 6, 63, 0), 3);
        Check.due("register of width 1", x.signal(2, 1, 1, 0), 4);
        Check.due("an input has 0", x.peek(0), 0);
        Check.due("a constant's value", x.peek(1), 19);
        Check.due("a register's first value", x.peek(2), 21);
        Check.due("63", x.peek(3), 63);
        Check.due("1", x.peek(4), 1);
    }

    private static void wrongKinds() {
        NetlistBench x = new NetlistBench();
        x.signal(0, 2, 0, 0);
        for (int kind : new int[] {-1, 19, 20, 32, 256, MIN, MAX}) {
            Check.due("kind " + kind, x.signal(kind, 0, 0, 0), BAD);
        }
    }

    private static void widthsOfSources() {
        NetlistBench x = new NetlistBench();
        for (int kind = 0; kind <= 2; kind++) {
            for (int width : new int[] {0, 7, -1, 32, 33, 38, -26, MIN, MAX}) {
                Check.due("kind " + kind + " of width " + width, x.signal(kind, width, 0, 0), BAD);
            }
        }
        for (int kind = 1; kind <= 2; kind++) {
            for (int width = 1; width <= 6; width++) {
                for (int y : new int[] {-1, 1 << width, MIN, MAX}) {
                    String call = "signal(" + kind + ", " + width + ", " + y + ", 0)";
                    Check.due(call, x.signal(kind, width, y, 0), BAD);
                }
            }
        }
        int number = 0;
        for (int width = 1; width <= 6; width++) {
            Check.due("widest constant", x.signal(1, width, (1 << width) - 1, 0), number++);
            Check.due("widest register", x.signal(2, width, (1 << width) - 1, 0), number++);
        }
    }

    private static void operandsOfEachKind() {
        for (int kind = 3; kind <= 18; kind++) {
            for (int a = -1; a <= 6; a++) {
                for (int b = -1; b <= 6; b++) {
                    for (int c = -1; c <= 6; c++) {
                        NetlistBench x = Circuits.sixInputs();
                        String call = "signal(" + kind + ", " + a + ", " + b + ", " + c + ")";
                        Check.due(call, x.signal(kind, a, b, c), fits(kind, a, b, c) ? 6 : BAD);
                    }
                }
            }
        }
        for (int wild : new int[] {MIN, MAX, 24, 99, -2}) {
            for (int kind = 3; kind <= 18; kind++) {
                NetlistBench x = Circuits.sixInputs();
                Check.due("kind " + kind + ", x " + wild, x.signal(kind, wild, 1, 1), BAD);
                if (kind != 3 && kind < 17) {
                    Check.due("kind " + kind + ", y " + wild, x.signal(kind, 0, wild, 0), BAD);
                }
            }
            Check.due("kind 12, z " + wild, Circuits.sixInputs().signal(12, 0, 0, wild), BAD);
        }
    }

    /** Whether operands fit among the signals of sixInputs, where signal i has width i + 1. */
    private static boolean fits(int kind, int a, int b, int c) {
        boolean isA = a >= 0 && a < 6;
        boolean isB = b >= 0 && b < 6;
        boolean isC = c >= 0 && c < 6;
        if (kind == 3 || kind == 17) {
            return isA;
        }
        if (kind == 18) {
            return a == 1;
        }
        if (kind == 16) {
            return isA && b >= 0 && c >= 1 && b + c <= a + 1;
        }
        if (kind == 15) {
            return isA && isB && a + 1 + b + 1 <= 6;
        }
        if (kind >= 13) {
            return isA && b == 1;
        }
        if (kind == 12) {
            return a == 0 && isB && isC && b == c;
        }
        return isA && isB && a == b && (kind != 9 || a <= 2);
    }

    private static void productWidth() {
        NetlistBench x = Circuits.sixInputs();
        Check.due("product of width 4", x.signal(9, 3, 3, 0), BAD);
        Check.due("product of width 6", x.signal(9, 5, 5, 0), BAD);
        Check.due("product of width 3", x.signal(9, 2, 2, 0), 6);
    }

    private static void joinedWidth() {
        NetlistBench x = Circuits.sixInputs();
        Check.due("1 and 6 joined", x.signal(15, 0, 5, 0), BAD);
        Check.due("4 and 3 joined", x.signal(15, 3, 2, 0), BAD);
        Check.due("1 and 5 joined", x.signal(15, 0, 4, 0), 6);
        Check.due("a signal joined with itself", x.signal(15, 2, 2, 0), 7);
    }

    private static void slices() {
        NetlistBench x = Circuits.sixInputs();
        Check.due("whole", x.signal(16, 5, 0, 6), 6);
        Check.due("highest bit", x.signal(16, 5, 5, 1), 7);
        Check.due("y is the width", x.signal(16, 5, 6, 1), BAD);
        Check.due("y + z above the width", x.signal(16, 5, 1, 6), BAD);
        Check.due("z is 0", x.signal(16, 5, 0, 0), BAD);
        Check.due("z is -1", x.signal(16, 5, 3, -1), BAD);
        Check.due("y is -1", x.signal(16, 5, -1, 2), BAD);
        Check.due("y + z wraps around", x.signal(16, 5, MAX, 1), BAD);
        Check.due("y + z wraps around", x.signal(16, 5, 1, MAX), BAD);
        Check.due("y + z wraps around", x.signal(16, 5, MAX, MAX), BAD);
        Check.due("y + z wraps around", x.signal(16, 5, MIN, MIN), BAD);
        Check.due("y is the least int", x.signal(16, 5, MIN, 2), BAD);
        Check.due("z is the least int", x.signal(16, 5, 2, MIN), BAD);
        Check.due("x is its own number", x.signal(16, 8, 0, 1), BAD);
    }

    private static void unusedOperandsAreFree() {
        for (int wild : new int[] {MIN, -1, 24, 99, MAX}) {
            NetlistBench x = new NetlistBench();
            String with = " with " + wild;
            Check.due("input" + with, x.signal(0, 2, wild, wild), 0);
            Check.due("constant" + with, x.signal(1, 2, 3, wild), 1);
            Check.due("register" + with, x.signal(2, 2, 3, wild), 2);
            Check.due("not" + with, x.signal(3, 1, wild, wild), 3);
            for (int kind = 4; kind <= 11; kind++) {
                Check.due("kind " + kind + with, x.signal(kind, 1, 2, wild), kind);
            }
            Check.due("kind 13" + with, x.signal(13, 1, 2, wild), 12);
            Check.due("kind 14" + with, x.signal(14, 1, 2, wild), 13);
            Check.due("kind 15" + with, x.signal(15, 1, 2, wild), 14);
            x = new NetlistBench();
            x.signal(1, 2, 3, wild);
            Check.due("kind 17" + with, x.signal(17, 0, wild, wild), 1);
            Check.due("kind 18" + with, x.signal(18, 0, wild, wild), 2);
            Check.due("ones" + with, x.peek(1), 2);
            Check.due("word" + with, x.peek(2), 0);
            Check.due("depth of an input is 0" + with, x.depth(0), 0);
        }
    }

    /** The widest number that a signal can be forced to tells its width. */
    private static int widthOf(NetlistBench x, int s) {
        for (int width = 1; width <= 6; width++) {
            if (x.force(s, (1 << width) - 1) && !x.force(s, 1 << width)) {
                x.force(s, -1);
                return width;
            }
        }
        return 0;
    }

    private static void resultWidths() {
        int[][] calls = {
            {3, 4, 0, 0, 5}, {4, 4, 4, 0, 5}, {5, 4, 4, 0, 5}, {6, 4, 4, 0, 5}, {7, 4, 4, 0, 5}, {8, 4, 4, 0, 5},
            {9, 2, 2, 0, 3}, {9, 0, 0, 0, 1}, {10, 4, 4, 0, 1}, {11, 4, 4, 0, 1}, {12, 0, 4, 4, 5}, {12, 0, 0, 0, 1},
            {13, 4, 1, 0, 5}, {14, 4, 1, 0, 5}, {13, 0, 1, 0, 1}, {15, 0, 3, 0, 5}, {15, 1, 3, 0, 6}, {16, 5, 1, 4, 4},
            {17, 0, 0, 0, 3}, {17, 5, 0, 0, 3}, {18, 1, 0, 0, 4}};
        for (int[] call : calls) {
            NetlistBench x = Circuits.sixInputs();
            x.signal(call[0], call[1], call[2], call[3]);
            Check.due("width of kind " + call[0], widthOf(x, 6), call[4]);
        }
    }

    /** What is left of the cost limit: how much products, sums and ands, dearest first, use up. */
    private static int costLeft(NetlistBench x) {
        int left = 0;
        for (int i = 0; i < 24 && x.signal(9, 2, 2, 0) >= 0; i++) {
            left += 90;
        }
        for (int width = 6; width >= 1; width--) {
            for (int i = 0; i < 24 && x.signal(7, width - 1, width - 1, 0) >= 0; i++) {
                left += 9 * width;
            }
        }
        for (int width = 6; width >= 1; width--) {
            for (int i = 0; i < 24 && x.signal(4, width - 1, width - 1, 0) >= 0; i++) {
                left += width;
            }
        }
        return left;
    }

    private static void costOfEachKind() {
        int[][] calls = {
            {0, 6, 0, 0, 0}, {1, 6, 1, 0, 0}, {2, 6, 1, 0, 18}, {2, 1, 1, 0, 3}, {3, 5, 0, 0, 0},
            {5, 5, 5, 0, 6}, {5, 0, 0, 0, 1}, {4, 4, 4, 0, 5}, {6, 5, 5, 0, 18}, {6, 1, 1, 0, 6}, {7, 5, 5, 0, 54},
            {8, 5, 5, 0, 54}, {8, 0, 0, 0, 9}, {9, 2, 2, 0, 90}, {9, 1, 1, 0, 40}, {9, 0, 0, 0, 10},
            {10, 5, 5, 0, 48}, {10, 0, 0, 0, 8}, {11, 5, 5, 0, 24}, {11, 0, 0, 0, 4}, {12, 0, 5, 5, 18},
            {12, 0, 1, 1, 6}, {13, 5, 1, 0, 36}, {13, 0, 1, 0, 6}, {14, 5, 1, 0, 36}, {14, 2, 1, 0, 18},
            {15, 2, 2, 0, 0}, {16, 5, 0, 6, 0}, {17, 5, 0, 0, 72}, {17, 0, 0, 0, 12}, {18, 1, 0, 0, 40}};
        for (int[] call : calls) {
            NetlistBench x = Circuits.sixInputs();
            Check.due("kind " + call[0], x.signal(call[0], call[1], call[2], call[3]), 6);
            Check.due("cost of kind " + call[0] + " over " + call[1], 220 - costLeft(x), call[4]);
        }
    }

    private static void costLimitEdges() {
        NetlistBench x = Circuits.sixInputs();
        for (int i = 0; i < 4; i++) {
            Check.due("sum of cost 54", x.signal(7, 5, 5, 0), 6 + i);
        }
        Check.due("216 and 5", x.signal(4, 4, 4, 0), FULL);
        Check.due("216 and 4", x.signal(4, 3, 3, 0), 10);
        Check.due("220 and 1", x.signal(4, 0, 0, 0), FULL);
        Check.due("220 and a register", x.signal(2, 1, 0, 0), FULL);
        Check.due("220 and a word", x.signal(18, 1, 0, 0), FULL);
        Check.due("220 and 0", x.signal(3, 0, 0, 0), 11);
        Check.due("220 and an input", x.signal(0, 1, 0, 0), 12);
        Check.due("220 and a constant", x.signal(1, 6, 5, 0), 13);
    }

    private static void stateWidthLimit() {
        NetlistBench x = new NetlistBench();
        for (int i = 0; i < 9; i++) {
            Check.due("source of width 6", x.signal(i % 2 * 2, 6, 0, 0), i);
        }
        Check.due("54 and 5", x.signal(2, 5, 0, 0), 9);
        Check.due("59 and 2, input", x.signal(0, 2, 0, 0), FULL);
        Check.due("59 and 2, register", x.signal(2, 2, 0, 0), FULL);
        Check.due("59 and a constant", x.signal(1, 6, 0, 0), 10);
        Check.due("59 and 1", x.signal(0, 1, 0, 0), 11);
        Check.due("60 and 1, input", x.signal(0, 1, 0, 0), FULL);
        Check.due("60 and 1, register", x.signal(2, 1, 0, 0), FULL);
        Check.due("60 and a wrong width", x.signal(0, 7, 0, 0), BAD);
        Check.due("60 and a gate", x.signal(3, 0, 0, 0), 12);
    }

    private static void twentyFourSignals() {
        NetlistBench x = new NetlistBench();
        for (int i = 0; i < 24; i++) {
            Check.due("constant", x.signal(1, 5, i, 0), i);
        }
        Check.due("a 25th", x.signal(1, 5, 0, 0), FULL);
        for (int i = 0; i < 24; i++) {
            Check.due("peek(" + i + ")", x.peek(i), i);
        }
        Check.due("peek(24)", x.peek(24), BAD);
    }

    private static void everyCallWithTwentyFour() {
        NetlistBench x = new NetlistBench();
        for (int i = 0; i < 23; i++) {
            x.signal(1, 1, 1, 0);
        }
        Check.due("a register as the last", x.signal(2, 1, 0, 0), 23);
        Check.due("connect", x.connect(23, 22, 21), true);
        Check.due("clock", x.clock(1), 1);
        x.keep();
        x.reset();
        Check.due("reset", x.peek(23), 0);
        x.back();
        Check.due("back", x.peek(23), 1);
        Check.due("equivalent", x.equivalent(23, 22), 0);
        Check.due("satisfied", x.satisfied(23), 1);
        Check.due("depth", x.depth(23), 0);
        Check.due("force", x.force(23, 0), true);
        Check.due("forced", x.peek(23), 0);
        Check.due("no 25th", x.force(24, 0), false);
    }

    private static void orderOfTests() {
        NetlistBench x = new NetlistBench();
        for (int i = 0; i < 24; i++) {
            x.signal(1, 1, 0, 0);
        }
        Check.due("24 and a wrong kind", x.signal(19, 0, 0, 0), FULL);
        Check.due("24 and a wrong kind", x.signal(-1, 0, 0, 0), FULL);
        Check.due("24 and a wrong operand", x.signal(3, 24, 0, 0), FULL);
        Check.due("24 and a wrong width", x.signal(0, 7, 0, 0), FULL);
        NetlistBench y = Circuits.sixInputs();
        for (int i = 0; i < 4; i++) {
            y.signal(7, 5, 5, 0);
        }
        Check.due("limit and a wrong kind", y.signal(19, 0, 0, 0), BAD);
        Check.due("limit and a wrong operand", y.signal(7, 5, 4, 0), BAD);
        Check.due("limit and a product too wide", y.signal(9, 3, 3, 0), BAD);
        Check.due("limit and a wrong first value", y.signal(2, 6, 64, 0), BAD);
        Check.due("limit alone", y.signal(2, 6, 63, 0), FULL);
    }

    private static void refusedMakesNothing() {
        NetlistBench x = Circuits.sixInputs();
        x.signal(7, 5, 5, 0);
        x.signal(7, 5, 5, 0);
        x.signal(7, 5, 5, 0);
        x.signal(9, 2, 2, 0);
        x.signal(17, 5, 0, 0);
        x.signal(9, 4, 4, 0);
        Check.due("refused signals have no number", x.peek(9), BAD);
        Check.due("refused signals cost nothing", x.signal(7, 5, 5, 0), 9);
        Check.due("the limit is as it was", x.signal(4, 4, 4, 0), FULL);
        for (int i = 0; i < 6; i++) {
            Check.due("source of width 6", x.signal(0, 6, 0, 0), 10 + i);
        }
        Check.due("57 and 4", x.signal(0, 4, 0, 0), FULL);
        Check.due("57 and 3", x.signal(0, 3, 0, 0), 16);
        Check.due("60 and 1", x.signal(0, 1, 0, 0), FULL);
    }
}
