/** The boundary cases of the circuit at work, a method for each sentence: Terms, promises 3 to 13 and 17. */
public final class BoundaryWorkTest {
    private static final int BAD = NetlistBench.BAD;
    private static final int MIN = Integer.MIN_VALUE;
    private static final int MAX = Integer.MAX_VALUE;

    public static void main(String[] args) {
        connectWithoutEnable();
        connectNoRegister();
        connectNext();
        connectEnable();
        connectRefused();
        portWidths();
        portRefused();
        driveNoInput();
        driveValue();
        driveForcedInput();
        forceNoSignal();
        forceValue();
        forceNoLonger();
        forcedWhereverUsed();
        forcedRegisterKeeps();
        peekNone();
        clockClamped();
        clockBitsAtEachTick();
        clockGreatestAnswer();
        clockForcedRegister();
        valuesFollow();
        tickAllAtOnce();
        tickOfTheWordThatIsRead();
        tickNextAndEnable();
        tickMemory();
        memoryAtFirst();
        wordOutside();
        resetEverything();
        resetLeavesInputsAndForced();
        keepAtFirst();
        keepInPlaceOfBefore();
        keepRegistersMadeLater();
        keepWhatTheyHave();
        backAgainAndAgain();
        levelOutside();
        levelInNoAnswer();
        Check.end();
    }

    private static int top(int width) {
        return (1 << width) - 1;
    }

    private static void connectWithoutEnable() {
        Check.sentence("Promise 3", "Gives register r a next signal and an enable signal (-1: none).");
        NetlistBench x = new NetlistBench();
        x.signal(2, 4, 0, 0);
        x.signal(0, 4, 0, 0);
        x.signal(0, 1, 0, 0);
        x.drive(1, 15);
        Check.due("enable -1", x.connect(0, 1, -1), true);
        Check.due("takes its next signal", x.clock(1), 4);
        x.drive(1, 0);
        Check.due("enable 2", x.connect(0, 1, 2), true);
        Check.due("not while the enable signal is 0", x.clock(1), 0);
        Check.due("-1 again", x.connect(0, 1, -1), true);
        Check.due("no enable signal any more", x.clock(1), 4);
    }

    private static void connectNoRegister() {
        Check.sentence("Promise 3", "r is no register [..]: refused, answers false.");
        NetlistBench x = Circuits.everyKind();
        for (int r = -2; r <= 20; r++) {
            int next = r >= 0 && r <= 18 ? r : 0;
            Check.due("connect(" + r + ", " + next + ", -1)", x.connect(r, next, -1), r == 2);
        }
        for (int r : Circuits.FAR) {
            Check.due("connect(" + r + ", 0, -1)", x.connect(r, 0, -1), false);
            Check.due("connect(" + r + ", " + r + ", -1)", x.connect(r, r, -1), false);
        }
    }

    private static void connectNext() {
        Check.sentence("Promise 3", "next no signal of its width [..]: refused, answers false.");
        for (int width = 1; width <= 6; width++) {
            NetlistBench x = Circuits.sixInputs();
            x.signal(2, width, 0, 0);
            for (int next = -2; next <= 8; next++) {
                boolean due = next == width - 1 || next == 6;
                Check.due("width " + width + ": connect(6, " + next + ", -1)", x.connect(6, next, -1), due);
            }
            for (int next : Circuits.FAR) {
                Check.due("width " + width + ": connect(6, " + next + ", -1)", x.connect(6, next, -1), false);
            }
            x.signal(3, 6, 0, 0);
            Check.due("a next signal made after the register", x.connect(6, 7, -1), true);
            Check.due("turned over", x.clock(1), width);
        }
    }

    private static void connectEnable() {
        Check.sentence("Promise 3",
            "enable neither -1 nor a signal of width 1: refused, answers false. Else true.");
        NetlistBench x = Circuits.sixInputs();
        x.signal(2, 1, 0, 0);
        for (int enable = -2; enable <= 8; enable++) {
            boolean due = enable == -1 || enable == 0 || enable == 6;
            Check.due("connect(6, 0, " + enable + ")", x.connect(6, 0, enable), due);
        }
        for (int enable : Circuits.FAR) {
            Check.due("connect(6, 0, " + enable + ")", x.connect(6, 0, enable), false);
        }
    }

    private static void connectRefused() {
        Check.sentence("Promise 3", "refused, answers false");
        int[][] refused = {{0, 3, -1}, {0, -1, -1}, {0, -1, 2}, {0, 4, 3}, {0, 4, -2}, {0, 4, 5}, {0, 5, -1},
            {1, 4, -1}, {5, 4, -1}, {-1, 4, -1}};
        for (int[] call : refused) {
            String name = "connect(" + call[0] + ", " + call[1] + ", " + call[2] + ")";
            NetlistBench x = new NetlistBench();
            x.signal(2, 4, 0, 0);
            x.signal(0, 4, 0, 0);
            x.signal(0, 1, 0, 0);
            x.signal(1, 2, 0, 0);
            x.signal(1, 4, 8, 0);
            Check.due(name, x.connect(call[0], call[1], call[2]), false);
            x.drive(1, 7);
            Check.due("not connected after " + name, x.clock(1), 0);
            x.connect(0, 1, 2);
            Check.due(name, x.connect(call[0], call[1], call[2]), false);
            Check.due("enable 0 stays after " + name, x.clock(1), 0);
            x.drive(2, 1);
            Check.due("the next signal stays after " + name, x.clock(1), 3);
            Check.due("got it", x.peek(0), 7);
        }
    }

    private static void portWidths() {
        Check.sentence("Promise 4",
            "place a signal of width 2, data one of width 4, enable one of width 1; else refused, answers "
            + "false. Else true.");
        NetlistBench x = Circuits.sixInputs();
        for (int s = -2; s <= 7; s++) {
            Check.due("port(" + s + ", 3, 0)", x.port(s, 3, 0), s == 1);
            Check.due("port(1, " + s + ", 0)", x.port(1, s, 0), s == 3);
            Check.due("port(1, 3, " + s + ")", x.port(1, 3, s), s == 0);
        }
        for (int s : Circuits.FAR) {
            Check.due("port(" + s + ", 3, 0)", x.port(s, 3, 0), false);
            Check.due("port(1, " + s + ", 0)", x.port(1, s, 0), false);
            Check.due("port(1, 3, " + s + ")", x.port(1, 3, s), false);
        }
    }

    private static void portRefused() {
        Check.sentence("Promise 4", "else refused, answers false");
        int[][] refused = {{3, 4, -1}, {3, 4, 6}, {3, 4, 0}, {3, -1, 5}, {3, 6, 5}, {3, 0, 5}, {-1, 4, 5}, {6, 4, 5},
            {1, 4, 5}};
        for (int[] call : refused) {
            String name = "port(" + call[0] + ", " + call[1] + ", " + call[2] + ")";
            NetlistBench x = new NetlistBench();
            x.signal(0, 2, 0, 0);
            x.signal(0, 4, 0, 0);
            x.signal(0, 1, 0, 0);
            x.signal(1, 2, 3, 0);
            x.signal(1, 4, 15, 0);
            x.signal(1, 1, 1, 0);
            x.drive(1, 7);
            Check.due(name, x.port(call[0], call[1], call[2]), false);
            Check.due("no port after " + name, x.clock(1), 0);
            x.port(0, 1, 2);
            Check.due(name, x.port(call[0], call[1], call[2]), false);
            Check.due("enable 0 stays after " + name, x.clock(1), 0);
            x.drive(2, 1);
            Check.due("the data signal stays after " + name, x.clock(1), 3);
            Check.due("the place signal stays", x.word(0), 7);
            Check.due("another port in its place", x.port(3, 4, 5), true);
            x.drive(1, 0);
            Check.due("the later port writes", x.clock(1), 4);
            Check.due("the earlier one no longer", x.word(0), 7);
            Check.due("at the later one's place", x.word(3), 15);
        }
    }

    private static void driveNoInput() {
        Check.sentence("Promise 5", "s is no input [..]: refused, answers false.");
        NetlistBench x = Circuits.everyKind();
        for (int s = -2; s <= 20; s++) {
            int before = x.peek(s);
            Check.due("drive(" + s + ", 1)", x.drive(s, 1), s == 0);
            Check.due("drive(" + s + ", 0)", x.drive(s, 0), s == 0);
            Check.due("peek(" + s + ")", x.peek(s), before);
        }
        for (int s : Circuits.FAR) {
            Check.due("drive(" + s + ", 0)", x.drive(s, 0), false);
        }
    }

    private static void driveValue() {
        Check.sentence("Promise 5", "value is not from 0 to 2^width - 1: refused, answers false. Else true.");
        for (int width = 1; width <= 6; width++) {
            NetlistBench x = Circuits.inputs(width, width);
            for (int value : new int[] {MIN, MIN + 1, -2, -1, top(width) + 1, top(width) + 2, 64, 1 << 16, MAX}) {
                Check.due("0 of width " + width + ": drive(0, " + value + ")", x.drive(0, value), false);
                Check.due("stays 0", x.peek(0), 0);
            }
            Check.due("drive(0, " + top(width) + ")", x.drive(0, top(width)), true);
            Check.due("the greatest value", x.peek(0), top(width));
            for (int value : new int[] {MIN, -1, top(width) + 1, MAX}) {
                Check.due("drive(0, " + value + ")", x.drive(0, value), false);
                Check.due("stays the greatest", x.peek(0), top(width));
            }
            Check.due("drive(0, 0)", x.drive(0, 0), true);
            Check.due("0 again", x.peek(0), 0);
            Check.due("the other input", x.peek(1), 0);
        }
    }

    private static void driveForcedInput() {
        Check.sentence("Promise 5", "Sets an input.");
        NetlistBench x = Circuits.inputs(6);
        x.force(0, 63);
        Check.due("drive under a force", x.drive(0, 1), true);
        Check.due("forced all the same", x.peek(0), 63);
        Check.due("too large under a force", x.drive(0, 64), false);
        Check.due("too small under a force", x.drive(0, -1), false);
        x.force(0, -1);
        Check.due("what it was set to", x.peek(0), 1);
    }

    private static void forceNoSignal() {
        Check.sentence("Promise 6", "s is no signal [..]: refused, answers false.");
        NetlistBench x = Circuits.everyKind();
        for (int s : new int[] {-2, -1, 19, 20}) {
            Check.due("force(" + s + ", 0)", x.force(s, 0), false);
            Check.due("force(" + s + ", -1)", x.force(s, -1), false);
        }
        for (int s : Circuits.FAR) {
            Check.due("force(" + s + ", 0)", x.force(s, 0), false);
            Check.due("force(" + s + ", -1)", x.force(s, -1), false);
        }
        x.signal(1, 1, 1, 0);
        Check.due("a signal made after the refusal", x.peek(19), 1);
        Check.due("is not forced before", x.force(19, 0), true);
        Check.due("but now", x.peek(19), 0);
    }

    private static void forceValue() {
        Check.sentence("Promise 6", "value is below -1 or above 2^width - 1: refused, answers false. Else true.");
        for (int kind = 0; kind <= 18; kind++) {
            NetlistBench x = Circuits.everyKind();
            int highest = top(Circuits.widthOfKind(kind));
            int before = x.peek(kind);
            int[] wrong = {MIN, MIN + 1, -3, -2, highest + 1, highest + 2, 64, 1 << 16, MAX};
            for (int value : wrong) {
                Check.due("force(" + kind + ", " + value + ")", x.force(kind, value), false);
                Check.due("not forced", x.peek(kind), before);
            }
            for (int forced : new int[] {0, highest}) {
                Check.due("force(" + kind + ", " + forced + ")", x.force(kind, forced), true);
                for (int value : wrong) {
                    Check.due("force(" + kind + ", " + value + ")", x.force(kind, value), false);
                    Check.due("forced as before", x.peek(kind), forced);
                }
            }
        }
        for (int width = 1; width <= 6; width++) {
            NetlistBench x = Circuits.inputs(width);
            Check.due("above the greatest", x.force(0, top(width) + 1), false);
            Check.due("the greatest", x.force(0, top(width)), true);
            Check.due("is its value", x.peek(0), top(width));
        }
    }

    private static void forceNoLonger() {
        Check.sentence("Promise 6", "Forces a signal to a number, or, for -1, no longer.");
        for (int kind = 0; kind <= 18; kind++) {
            NetlistBench x = Circuits.everyKind();
            int before = x.peek(kind);
            Check.due("-1 where nothing is forced", x.force(kind, -1), true);
            Check.due("as before", x.peek(kind), before);
            x.force(kind, before ^ 1);
            Check.due("kind " + kind + " forced", x.peek(kind), before ^ 1);
            Check.due("no longer", x.force(kind, -1), true);
            Check.due("as before", x.peek(kind), before);
        }
    }

    private static void forcedWhereverUsed() {
        Check.sentence("Terms", "A signal may be FORCED to a number: that is its value then, wherever it is used");
        NetlistBench x = new NetlistBench();
        x.signal(1, 4, 0, 0);
        x.signal(1, 1, 0, 0);
        x.signal(1, 2, 0, 0);
        x.signal(2, 4, 0, 0);
        x.signal(18, 2, 0, 0);
        x.signal(3, 0, 0, 0);
        x.signal(12, 1, 0, 5);
        x.connect(3, 0, 1);
        x.port(2, 0, 1);
        Check.due("not enabled", x.clock(1), 0);
        x.force(0, 15);
        Check.due("as an operand", x.peek(5), 0);
        Check.due("as z's operand", x.peek(6), 0);
        x.force(1, 1);
        Check.due("as the choosing operand", x.peek(6), 15);
        x.force(2, 3);
        Check.due("as next, enable, data and place", x.clock(1), 8);
        Check.due("the register", x.peek(3), 15);
        Check.due("the place written", x.word(3), 15);
        Check.due("the place read", x.peek(4), 15);
        x.force(4, 2);
        Check.due("a forced word", x.peek(4), 2);
        Check.due("the memory has its own", x.word(3), 15);
        x.force(1, 0);
        x.force(0, 0);
        Check.due("forced not to be enabled", x.clock(1), 0);
    }

    private static void forcedRegisterKeeps() {
        Check.sentence("Terms", "(a forced register keeps underneath what it has and what it gets)");
        NetlistBench x = new NetlistBench();
        x.signal(2, 6, 5, 0);
        x.signal(0, 6, 0, 0);
        x.force(0, 63);
        x.force(0, -1);
        Check.due("what it has", x.peek(0), 5);
        x.connect(0, 1, -1);
        x.drive(1, 9);
        x.force(0, 63);
        x.clock(1);
        Check.due("forced after the tick", x.peek(0), 63);
        x.force(0, -1);
        Check.due("what it got", x.peek(0), 9);
        x.connect(0, 0, -1);
        x.force(0, 63);
        x.clock(1);
        x.force(0, -1);
        Check.due("its own forced value as next", x.peek(0), 63);
    }

    private static void peekNone() {
        Check.sentence("Promise 7", "A signal's value; BAD if there is none.");
        NetlistBench x = new NetlistBench();
        for (int count = 0; count <= 24; count++) {
            Check.due("peek(-1) of " + count, x.peek(-1), BAD);
            Check.due("peek(" + count + ") of " + count, x.peek(count), BAD);
            if (count > 0) {
                Check.due("the last of " + count, x.peek(count - 1), 1);
            }
            Check.due("one more", x.signal(1, 1, 1, 0), count < 24 ? count : NetlistBench.FULL);
        }
        for (int s : Circuits.FAR) {
            Check.due("peek(" + s + ")", x.peek(s), BAD);
        }
    }

    /** How many bits the counter changes in so many ticks. */
    private static int bitsFrom(int start, int ticks) {
        int bits = 0;
        for (int i = start; i < start + ticks; i++) {
            bits += Integer.bitCount(i ^ i + 1);
        }
        return bits;
    }

    private static void clockClamped() {
        Check.sentence("Promise 8", "n clock ticks, n clamped into 0..40.");
        int[][] cases = {{MIN, 0}, {MIN + 1, 0}, {-41, 0}, {-40, 0}, {-2, 0}, {-1, 0}, {0, 0}, {1, 1}, {2, 2}, {38, 38},
            {39, 39}, {40, 40}, {41, 40}, {42, 40}, {64, 40}, {1 << 16, 40}, {MAX - 1, 40}, {MAX, 40}};
        for (int[] each : cases) {
            NetlistBench x = Circuits.counter();
            Check.due("clock(" + each[0] + ")", x.clock(each[0]), bitsFrom(0, each[1]));
            Check.due("ticks of clock(" + each[0] + ")", x.peek(0), each[1]);
        }
        NetlistBench y = Circuits.counter();
        y.clock(40);
        Check.due("40 to 63", y.clock(23), bitsFrom(40, 23));
        Check.due("63 to 0", y.clock(1), 6);
        Check.due("64 ticks come round", y.peek(0), 0);
    }

    private static void clockBitsAtEachTick() {
        Check.sentence("Promise 8",
            "Answers how many bits of registers and of the memory changed in all (each bit at each tick).");
        NetlistBench x = new NetlistBench();
        Check.due("nothing there", x.clock(40), 0);
        x.signal(2, 1, 0, 0);
        x.signal(3, 0, 0, 0);
        x.connect(0, 1, -1);
        Check.due("0 to 1 and back", x.clock(2), 2);
        Check.due("is as it was", x.peek(0), 0);
        Check.due("no tick", x.clock(0), 0);
        x.signal(0, 4, 0, 0);
        x.drive(2, 15);
        x.signal(3, 2, 0, 0);
        Check.due("inputs and gates do not count", x.clock(1), 1);
        x.signal(1, 2, 3, 0);
        x.signal(1, 1, 1, 0);
        x.port(4, 2, 5);
        Check.due("a register and a word", x.clock(1), 1 + 4);
        Check.due("the same word again", x.clock(1), 1);
        x.drive(2, 0);
        Check.due("from 1 to 0 counts as well", x.clock(2), 2 + 4);
    }

    /** Ten registers of width 6 and a word of the memory, all turned over at each tick. */
    private static void clockGreatestAnswer() {
        Check.sentence("Promise 8", "Answers how many bits of registers and of the memory changed in all");
        NetlistBench x = new NetlistBench();
        for (int i = 0; i < 10; i++) {
            x.signal(2, 6, 63, 0);
            x.signal(3, 2 * i, 0, 0);
            x.connect(2 * i, 2 * i + 1, -1);
        }
        x.signal(16, 18, 2, 4);
        x.signal(1, 2, 3, 0);
        x.signal(1, 1, 1, 0);
        Check.due("a port", x.port(21, 20, 22), true);
        Check.due("clock(40)", x.clock(40), 40 * 64);
        Check.due("clock(39)", x.clock(39), 39 * 64);
        Check.due("the word", x.word(3), 15);
        Check.due("a register", x.peek(18), 0);
    }

    private static void clockForcedRegister() {
        Check.sentence("Promise 17", "clock: of a forced register the bits of what it has underneath count.");
        NetlistBench x = new NetlistBench();
        x.signal(2, 6, 0, 0);
        x.signal(0, 6, 0, 0);
        x.connect(0, 1, -1);
        x.drive(1, 63);
        x.force(0, 63);
        Check.due("0 to 63 underneath 63", x.clock(1), 6);
        x.force(0, 0);
        Check.due("63 to 63 underneath 0", x.clock(1), 0);
        x.drive(1, 0);
        Check.due("63 to 0 underneath 0", x.clock(1), 6);
        x.force(0, 21);
        Check.due("0 to 0 underneath 21", x.clock(40), 0);
    }

    private static void valuesFollow() {
        Check.sentence("Terms", "The values follow from those of inputs, registers and memory at every time.");
        NetlistBench x = new NetlistBench();
        x.signal(0, 4, 0, 0);
        x.signal(2, 4, 3, 0);
        x.signal(1, 2, 3, 0);
        x.signal(1, 1, 1, 0);
        x.signal(18, 2, 0, 0);
        x.signal(6, 0, 1, 0);
        x.signal(6, 5, 4, 0);
        x.connect(1, 0, -1);
        x.port(2, 5, 3);
        Check.due("new", x.peek(6), 0 ^ 3 ^ 0);
        x.drive(0, 12);
        Check.due("after drive", x.peek(6), 12 ^ 3 ^ 0);
        x.clock(1);
        Check.due("after a tick", x.peek(6), 12 ^ 12 ^ 15);
        x.keep();
        x.clock(1);
        Check.due("after another", x.peek(6), 12 ^ 12 ^ 0);
        x.back();
        Check.due("after back", x.peek(6), 12 ^ 12 ^ 15);
        x.force(4, 1);
        Check.due("after force", x.peek(6), 12 ^ 12 ^ 1);
        x.force(4, -1);
        Check.due("no longer forced", x.peek(6), 12 ^ 12 ^ 15);
        x.reset();
        Check.due("after reset", x.peek(6), 12 ^ 3 ^ 0);
        x.signal(3, 6, 0, 0);
        Check.due("a signal made now", x.peek(7), 15 ^ 12 ^ 3);
    }

    private static void tickAllAtOnce() {
        Check.sentence("Terms", "At a CLOCK TICK, all at once from the values before it");
        NetlistBench x = new NetlistBench();
        x.signal(2, 4, 1, 0);
        x.signal(2, 4, 2, 0);
        x.signal(2, 1, 1, 0);
        x.signal(3, 2, 0, 0);
        x.signal(2, 2, 0, 0);
        x.signal(3, 4, 0, 0);
        x.signal(18, 4, 0, 0);
        x.connect(0, 1, -1);
        x.connect(1, 0, 2);
        x.connect(2, 3, -1);
        x.connect(4, 5, -1);
        x.port(4, 0, 2);
        Check.due("a swap, a turned enable, a turned place, a word", x.clock(1), 2 + 2 + 1 + 2 + 1);
        Check.due("first of the swap", x.peek(0), 2);
        Check.due("second of the swap, enabled before", x.peek(1), 1);
        Check.due("data and place before", x.word(0), 1);
        Check.due("not the place after", x.word(3), 0);
        x.connect(0, 6, -1);
        Check.due("the word at the place before", x.peek(6), 0);
        Check.due("second tick", x.clock(1), 1 + 0 + 1 + 2 + 0);
        Check.due("got the word before", x.peek(0), 0);
        Check.due("not enabled before", x.peek(1), 1);
    }

    /** A register and a word that swap: 1 gets the word at the place where its own value is written. */
    private static void tickOfTheWordThatIsRead() {
        Check.sentence("Terms", "At a CLOCK TICK, all at once from the values before it");
        NetlistBench x = new NetlistBench();
        x.signal(1, 2, 3, 0);
        x.signal(2, 4, 13, 0);
        x.signal(18, 0, 0, 0);
        x.signal(1, 1, 1, 0);
        x.connect(1, 2, -1);
        x.port(0, 1, 3);
        for (int i = 0; i < 4; i++) {
            Check.due("swap number " + i, x.clock(1), 3 + 3);
            Check.due("the register", x.peek(1), i % 2 == 0 ? 0 : 13);
            Check.due("the word", x.word(3), i % 2 == 0 ? 13 : 0);
        }
    }

    private static void tickNextAndEnable() {
        Check.sentence("Terms",
            "every register with a next signal gets that signal's value, if it has no enable signal or this "
            + "one has the value 1");
        NetlistBench x = new NetlistBench();
        x.signal(1, 6, 63, 0);
        x.signal(2, 6, 0, 0);
        x.signal(2, 6, 0, 0);
        x.signal(2, 6, 0, 0);
        x.signal(2, 6, 0, 0);
        x.signal(1, 1, 0, 0);
        x.signal(1, 1, 1, 0);
        x.connect(2, 0, -1);
        x.connect(3, 0, 5);
        x.connect(4, 0, 6);
        Check.due("two of four", x.clock(1), 12);
        Check.due("no next signal", x.peek(1), 0);
        Check.due("no enable signal", x.peek(2), 63);
        Check.due("enable 0", x.peek(3), 0);
        Check.due("enable 1", x.peek(4), 63);
    }

    private static void tickMemory() {
        Check.sentence("Terms",
            "the memory, if it has a port and its enable signal has the value 1, gets the data signal's value"
            + " at the place that the place signal says");
        for (int place = 0; place <= 3; place++) {
            NetlistBench x = Circuits.inputs(2, 4, 1);
            x.drive(0, place);
            x.drive(1, 15);
            x.drive(2, 1);
            Check.due("no port", x.clock(40), 0);
            x.port(0, 1, 2);
            x.drive(2, 0);
            Check.due("enable 0", x.clock(40), 0);
            x.drive(2, 1);
            Check.due("enable 1", x.clock(40), 4);
            for (int each = 0; each <= 3; each++) {
                Check.due("word(" + each + ")", x.word(each), each == place ? 15 : 0);
            }
        }
    }

    private static void memoryAtFirst() {
        Check.sentence("Terms", "There is one memory of 4 words of 4 bits, places 0 to 3, at first 0.");
        NetlistBench x = Circuits.inputs(2);
        x.signal(18, 0, 0, 0);
        for (int place = 0; place <= 3; place++) {
            x.drive(0, place);
            Check.due("word(" + place + ")", x.word(place), 0);
            Check.due("read at " + place, x.peek(1), 0);
        }
        NetlistBench full = fullMachine();
        Check.due("another object has its own", x.word(0), 0);
        Check.due("15 in all places", full.word(0) & full.word(1) & full.word(2) & full.word(3), 15);
    }

    private static void wordOutside() {
        Check.sentence("Promise 9", "A word of the memory; BAD for place outside 0..3.");
        NetlistBench x = fullMachine();
        for (int place = -5; place <= 9; place++) {
            Check.due("word(" + place + ")", x.word(place), place >= 0 && place <= 3 ? 15 : BAD);
        }
        for (int place : Circuits.FAR) {
            Check.due("word(" + place + ")", x.word(place), BAD);
        }
    }

    /** 0: a counter of width 2 from 3 on; 3: a register of width 4 with first value 15; 5: enable; all words 15. */
    private static NetlistBench fullMachine() {
        NetlistBench x = new NetlistBench();
        x.signal(2, 2, 3, 0);
        x.signal(1, 2, 1, 0);
        x.signal(7, 0, 1, 0);
        x.signal(2, 4, 15, 0);
        x.signal(0, 4, 0, 0);
        x.signal(0, 1, 0, 0);
        x.connect(0, 2, -1);
        x.connect(3, 4, -1);
        x.port(0, 3, 5);
        x.drive(4, 15);
        x.drive(5, 1);
        x.clock(5);
        return x;
    }

    private static void dueState(String at, NetlistBench x, int place, int data, int words) {
        Check.due(at + ": the counter", x.peek(0), place);
        Check.due(at + ": the data register", x.peek(3), data);
        for (int i = 0; i < 4; i++) {
            Check.due(at + ": word(" + i + ")", x.word(i), words);
        }
    }

    private static void resetEverything() {
        Check.sentence("Promise 10", "All registers get their first values, the memory 0");
        NetlistBench x = fullMachine();
        x.drive(5, 0);
        x.drive(4, 2);
        x.clock(1);
        dueState("before", x, 1, 2, 15);
        x.reset();
        dueState("reset", x, 3, 15, 0);
        x.reset();
        dueState("reset again", x, 3, 15, 0);
        NetlistBench y = new NetlistBench();
        y.reset();
        Check.due("reset of a new object", y.signal(2, 6, 63, 0), 0);
        y.signal(1, 6, 0, 0);
        y.connect(0, 1, -1);
        y.clock(1);
        y.reset();
        Check.due("the greatest first value", y.peek(0), 63);
        Check.due("the next signal stays", y.clock(1), 6);
    }

    private static void resetLeavesInputsAndForced() {
        Check.sentence("Promise 10", "inputs and what is forced stay.");
        NetlistBench x = fullMachine();
        x.force(3, 6);
        x.force(1, 2);
        x.force(5, 0);
        x.reset();
        Check.due("an input", x.peek(4), 15);
        Check.due("a forced register", x.peek(3), 6);
        Check.due("a forced constant", x.peek(1), 2);
        Check.due("a forced input", x.peek(5), 0);
        x.force(5, -1);
        Check.due("what was driven before", x.peek(5), 1);
        x.force(3, -1);
        Check.due("the first value underneath", x.peek(3), 15);
        x.signal(0, 6, 0, 0);
        x.drive(6, 63);
        x.reset();
        Check.due("the greatest value of an input", x.peek(6), 63);
    }

    private static void keepAtFirst() {
        Check.sentence("Promise 11", "(at first, and for registers made later, the first values, and 0)");
        NetlistBench x = fullMachine();
        x.drive(4, 0);
        x.clock(1);
        x.back();
        dueState("back where nothing was kept", x, 3, 15, 0);
        NetlistBench y = new NetlistBench();
        y.back();
        y.keep();
        y.back();
        Check.due("back and keep of a new object", y.signal(2, 6, 63, 0), 0);
        Check.due("a register made later", y.peek(0), 63);
    }

    private static void keepInPlaceOfBefore() {
        Check.sentence("Promise 11", "Notes what registers and memory have now, in place of what was noted before");
        NetlistBench x = fullMachine();
        x.keep();
        x.reset();
        x.keep();
        x.drive(4, 4);
        x.clock(40);
        x.back();
        dueState("the second note", x, 3, 15, 0);
        NetlistBench y = fullMachine();
        y.keep();
        y.reset();
        y.back();
        dueState("the only note", y, 0, 15, 15);
    }

    private static void keepRegistersMadeLater() {
        Check.sentence("Promise 11", "for registers made later, the first values");
        for (int first : new int[] {0, 42, 63}) {
            NetlistBench x = fullMachine();
            x.drive(4, 5);
            x.clock(1);
            x.keep();
            x.signal(2, 6, first, 0);
            x.signal(3, 6, 0, 0);
            x.connect(6, 7, -1);
            x.clock(1);
            Check.due("turned over", x.peek(6), 63 - first);
            x.back();
            Check.due("a register made later", x.peek(6), first);
            Check.due("one made before", x.peek(3), 5);
            x.clock(1);
            x.keep();
            x.reset();
            x.back();
            Check.due("kept since", x.peek(6), 63 - first);
        }
    }

    private static void keepWhatTheyHave() {
        Check.sentence("Promise 11", "Notes what registers and memory have now");
        NetlistBench x = fullMachine();
        x.drive(4, 9);
        x.clock(1);
        x.force(3, 0);
        x.keep();
        x.drive(4, 6);
        x.drive(5, 0);
        x.clock(1);
        x.back();
        Check.due("still forced", x.peek(3), 0);
        x.force(3, -1);
        Check.due("what it had underneath", x.peek(3), 9);
        Check.due("inputs are not noted", x.peek(4), 6);
        Check.due("inputs are not noted", x.peek(5), 0);
    }

    private static void backAgainAndAgain() {
        Check.sentence("Promise 12", "Registers and memory get what was noted.");
        NetlistBench x = fullMachine();
        x.keep();
        for (int i = 0; i < 3; i++) {
            x.drive(4, i);
            x.clock(40 - i);
            x.back();
            dueState("back number " + i, x, 0, 15, 15);
        }
        x.reset();
        x.back();
        dueState("back after reset", x, 0, 15, 15);
        x.force(5, 0);
        x.force(4, 3);
        x.back();
        Check.due("what is forced stays", x.peek(5), 0);
        Check.due("what is forced stays", x.peek(4), 3);
    }

    private static void levelOutside() {
        Check.sentence("Promise 13", "k outside 0..2: refused, answers false. Else true.");
        NetlistBench x = new NetlistBench();
        for (int k = -4; k <= 6; k++) {
            Check.due("level(" + k + ")", x.level(k), k >= 0 && k <= 2);
        }
        for (int k : Circuits.FAR) {
            Check.due("level(" + k + ")", x.level(k), false);
        }
    }

    /** Levels 0 to 2, refused ones, and 9, which stands for none. */
    private static void levelInNoAnswer() {
        Check.sentence("Promise 13", "It shows in no answer.");
        for (int first : new int[] {0, 1, 2, -1, 3, 9}) {
            for (int second : new int[] {0, 1, 2, -1, 3, 9}) {
                NetlistBench x = new NetlistBench();
                if (first != 9) {
                    x.level(first);
                }
                x.signal(2, 4, 0, 0);
                x.signal(0, 4, 0, 0);
                x.signal(7, 0, 1, 0);
                x.signal(1, 2, 2, 0);
                x.signal(1, 1, 1, 0);
                x.signal(18, 3, 0, 0);
                x.signal(6, 5, 2, 0);
                x.connect(0, 2, -1);
                x.port(3, 2, 4);
                x.drive(1, 5);
                String levels = "levels " + first + " and " + second + ": ";
                Check.due(levels + "a gate", x.peek(6), 5);
                if (second != 9) {
                    x.level(second);
                }
                Check.due(levels + "clock(2)", x.clock(2), 2 + 2 + 4 + 4);
                Check.due(levels + "a gate after ticks", x.peek(6), 10 ^ 15);
                x.force(1, 1);
                Check.due(levels + "a gate after force", x.peek(6), 10 ^ 11);
                x.keep();
                x.reset();
                Check.due(levels + "a gate after reset", x.peek(6), 1);
                x.level(first);
                x.back();
                Check.due(levels + "a gate after back", x.peek(6), 10 ^ 11);
                Check.due(levels + "satisfied", x.satisfied(2), 240);
                Check.due(levels + "a gate after satisfied", x.peek(6), 10 ^ 11);
                Check.due(levels + "equivalent", x.equivalent(2, 0), 0);
                Check.due(levels + "open", x.satisfied(6), NetlistBench.OPEN);
                Check.due(levels + "depth", x.depth(6), 2);
                x.force(1, -1);
                x.drive(1, 0);
                Check.due(levels + "a gate after drive", x.peek(6), 10 ^ 10);
            }
        }
    }
}
