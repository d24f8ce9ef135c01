/** Promises 3, 4, 8 and 9, and what promise 17 says of clock. */
public final class ClockTest {
    private static final int BAD = NetlistBench.BAD;

    public static void main(String[] args) {
        connecting();
        refusedConnectChangesNothing();
        connectingAgain();
        withoutNextSignal();
        registersSwapAtOnce();
        enabling();
        numberOfTicks();
        changedBits();
        forcedRegister();
        forcedNextAndEnable();
        makingAPort();
        refusedPortChangesNothing();
        writingMemory();
        memoryAtOnceWithRegisters();
        words();
        Check.end();
    }

    private static void connecting() {
        NetlistBench x = new NetlistBench();
        x.signal(2, 3, 5, 0);
        x.signal(0, 3, 0, 0);
        x.signal(0, 1, 0, 0);
        x.signal(0, 2, 0, 0);
        x.signal(1, 3, 1, 0);
        Check.due("connect(0, 1, -1)", x.connect(0, 1, -1), true);
        Check.due("connect(0, 1, 2)", x.connect(0, 1, 2), true);
        Check.due("connect(0, 0, -1)", x.connect(0, 0, -1), true);
        Check.due("connect(0, 4, 2)", x.connect(0, 4, 2), true);
        Check.due("next of another width", x.connect(0, 2, -1), false);
        Check.due("next of another width", x.connect(0, 3, -1), false);
        Check.due("enable of width 3", x.connect(0, 1, 1), false);
        Check.due("enable of width 2", x.connect(0, 1, 3), false);
        Check.due("an input as register", x.connect(1, 1, -1), false);
        Check.due("a constant as register", x.connect(4, 4, -1), false);
        for (int s : new int[] {5, 24, -2, Integer.MAX_VALUE, Integer.MIN_VALUE}) {
            Check.due("connect(" + s + ", 1, -1)", x.connect(s, 1, -1), false);
            Check.due("connect(0, " + s + ", -1)", x.connect(0, s, -1), false);
            Check.due("connect(0, 1, " + s + ")", x.connect(0, 1, s), false);
        }
        Check.due("connect(-1, 1, -1)", x.connect(-1, 1, -1), false);
        Check.due("connect(0, -1, -1)", x.connect(0, -1, -1), false);
    }

    private static void refusedConnectChangesNothing() {
        NetlistBench x = new NetlistBench();
        x.signal(2, 3, 0, 0);
        x.signal(3, 0, 0, 0);
        x.signal(1, 3, 2, 0);
        x.signal(1, 1, 0, 0);
        x.connect(0, 1, -1);
        Check.due("refused for its enable", x.connect(0, 2, 2), false);
        Check.due("refused for its next", x.connect(0, 3, 3), false);
        Check.due("clock(1)", x.clock(1), 3);
        Check.due("the next signal stayed", x.peek(0), 7);
    }

    private static void connectingAgain() {
        NetlistBench x = new NetlistBench();
        x.signal(2, 3, 0, 0);
        x.signal(1, 3, 6, 0);
        x.signal(1, 3, 3, 0);
        x.signal(1, 1, 0, 0);
        Check.due("not connected", x.clock(2), 0);
        x.connect(0, 1, 3);
        Check.due("not enabled", x.clock(2), 0);
        x.connect(0, 1, -1);
        Check.due("enable taken away", x.clock(2), 2);
        x.connect(0, 2, -1);
        Check.due("6 to 3", x.clock(2), 2);
        Check.due("the later next signal", x.peek(0), 3);
    }

    private static void withoutNextSignal() {
        NetlistBench x = new NetlistBench();
        x.signal(1, 3, 6, 0);
        x.signal(2, 3, 5, 0);
        x.signal(1, 1, 1, 0);
        Check.due("a register without a next signal", x.clock(3), 0);
        Check.due("keeps what it has", x.peek(1), 5);
    }

    private static void registersSwapAtOnce() {
        NetlistBench x = new NetlistBench();
        x.signal(2, 4, 3, 0);
        x.signal(2, 4, 12, 0);
        x.signal(2, 4, 5, 0);
        x.connect(0, 1, -1);
        x.connect(1, 2, -1);
        x.connect(2, 0, -1);
        Check.due("clock(1)", x.clock(1), 4 + 2 + 2);
        Check.due("peek(0)", x.peek(0), 12);
        Check.due("peek(1)", x.peek(1), 5);
        Check.due("peek(2)", x.peek(2), 3);
        x.clock(2);
        Check.due("round: peek(0)", x.peek(0), 3);
        Check.due("round: peek(1)", x.peek(1), 12);
        Check.due("round: peek(2)", x.peek(2), 5);
    }

    private static void enabling() {
        NetlistBench x = new NetlistBench();
        x.signal(2, 1, 0, 0);
        x.signal(3, 0, 0, 0);
        x.signal(2, 4, 0, 0);
        x.signal(1, 4, 1, 0);
        x.signal(7, 2, 3, 0);
        x.connect(0, 1, -1);
        x.connect(2, 4, 0);
        x.clock(1);
        Check.due("the enable's value before the tick counts", x.peek(2), 0);
        x.clock(1);
        Check.due("enabled", x.peek(2), 1);
        x.clock(6);
        Check.due("every other tick", x.peek(2), 4);
    }

    private static void numberOfTicks() {
        int[][] cases = {{0, 0}, {-1, 0}, {Integer.MIN_VALUE, 0}, {1, 1}, {39, 39}, {40, 40}, {41, 40},
            {Integer.MAX_VALUE, 40}};
        for (int[] each : cases) {
            NetlistBench x = Circuits.counter();
            int bits = 0;
            for (int i = 0; i < each[1]; i++) {
                bits += Integer.bitCount(i ^ i + 1);
            }
            Check.due("clock(" + each[0] + ")", x.clock(each[0]), bits);
            Check.due("after clock(" + each[0] + ")", x.peek(0), each[1]);
        }
        NetlistBench x = Circuits.counter();
        x.clock(40);
        x.clock(25);
        Check.due("modulo 64", x.peek(0), 1);
    }

    private static void changedBits() {
        NetlistBench x = new NetlistBench();
        x.signal(2, 6, 0, 0);
        x.signal(3, 0, 0, 0);
        x.connect(0, 1, -1);
        Check.due("six bits at each tick", x.clock(40), 240);
        Check.due("there and back", x.peek(0), 0);
        x.connect(0, 0, -1);
        Check.due("a register that keeps itself", x.clock(40), 0);
    }

    private static void forcedRegister() {
        NetlistBench x = new NetlistBench();
        x.signal(2, 4, 3, 0);
        x.signal(0, 4, 0, 0);
        x.signal(2, 4, 0, 0);
        x.connect(0, 1, -1);
        x.connect(2, 0, -1);
        x.force(0, 15);
        x.drive(1, 4);
        Check.due("3 to 4 underneath, 0 to 15", x.clock(1), 3 + 4);
        Check.due("forced all the same", x.peek(0), 15);
        Check.due("got the forced value", x.peek(2), 15);
        x.force(0, -1);
        Check.due("what it got underneath", x.peek(0), 4);
        x.force(0, 0);
        x.force(0, -1);
        Check.due("what it has underneath", x.peek(0), 4);
    }

    private static void forcedNextAndEnable() {
        NetlistBench x = new NetlistBench();
        x.signal(2, 4, 0, 0);
        x.signal(1, 4, 1, 0);
        x.signal(1, 1, 1, 0);
        x.connect(0, 1, 2);
        x.force(1, 7);
        Check.due("a forced next signal", x.clock(1), 3);
        x.force(2, 0);
        x.force(1, 0);
        Check.due("a forced enable signal", x.clock(5), 0);
        Check.due("peek(0)", x.peek(0), 7);
    }

    private static NetlistBench withMemory() {
        NetlistBench x = new NetlistBench();
        x.signal(0, 2, 0, 0);
        x.signal(0, 4, 0, 0);
        x.signal(0, 1, 0, 0);
        x.signal(0, 3, 0, 0);
        return x;
    }

    private static void makingAPort() {
        NetlistBench x = withMemory();
        for (int place = -1; place <= 4; place++) {
            for (int data = -1; data <= 4; data++) {
                for (int enable = -1; enable <= 4; enable++) {
                    boolean due = place == 0 && data == 1 && enable == 2;
                    String call = "port(" + place + ", " + data + ", " + enable + ")";
                    Check.due(call, x.port(place, data, enable), due);
                }
            }
        }
        for (int s : new int[] {24, Integer.MAX_VALUE, Integer.MIN_VALUE}) {
            Check.due("place " + s, x.port(s, 1, 2), false);
            Check.due("data " + s, x.port(0, s, 2), false);
            Check.due("enable " + s, x.port(0, 1, s), false);
        }
    }

    private static void refusedPortChangesNothing() {
        NetlistBench x = withMemory();
        x.signal(1, 2, 3, 0);
        x.signal(1, 4, 15, 0);
        x.port(0, 1, 2);
        x.drive(1, 6);
        x.drive(2, 1);
        Check.due("refused for its enable", x.port(4, 5, 3), false);
        Check.due("clock(1)", x.clock(1), 2);
        Check.due("word(0)", x.word(0), 6);
        Check.due("word(3)", x.word(3), 0);
        Check.due("another port", x.port(4, 5, 2), true);
        Check.due("clock(1)", x.clock(1), 4);
        Check.due("word(0) stays", x.word(0), 6);
        Check.due("word(3)", x.word(3), 15);
    }

    private static void writingMemory() {
        NetlistBench x = withMemory();
        x.drive(1, 11);
        x.drive(2, 1);
        Check.due("no port", x.clock(3), 0);
        x.port(0, 1, 2);
        x.drive(2, 0);
        Check.due("not enabled", x.clock(3), 0);
        Check.due("word(0)", x.word(0), 0);
        x.drive(2, 1);
        x.drive(0, 2);
        Check.due("three bits, once", x.clock(3), 3);
        for (int place = 0; place < 4; place++) {
            Check.due("word(" + place + ")", x.word(place), place == 2 ? 11 : 0);
        }
        x.force(1, 4);
        x.force(0, 1);
        Check.due("forced place and data", x.clock(1), 1);
        Check.due("word(1)", x.word(1), 4);
        x.force(2, 0);
        x.force(1, 15);
        Check.due("forced enable", x.clock(1), 0);
        Check.due("word(1)", x.word(1), 4);
    }

    private static void memoryAtOnceWithRegisters() {
        NetlistBench x = new NetlistBench();
        x.signal(2, 2, 0, 0);
        x.signal(3, 0, 0, 0);
        x.signal(2, 4, 9, 0);
        x.signal(18, 0, 0, 0);
        x.signal(1, 1, 1, 0);
        x.connect(0, 1, -1);
        x.connect(2, 3, -1);
        x.port(0, 2, 4);
        Check.due("clock(1)", x.clock(1), 2 + 2 + 2);
        Check.due("written at the place before", x.word(0), 9);
        Check.due("not at the place after", x.word(3), 0);
        Check.due("the register got the word before", x.peek(2), 0);
        Check.due("clock(1)", x.clock(1), 2);
        Check.due("peek(3)", x.peek(3), 9);
        Check.due("clock(1)", x.clock(1), 2 + 2 + 2);
        Check.due("peek(2)", x.peek(2), 9);
        Check.due("word(0)", x.word(0), 0);
    }

    private static void words() {
        NetlistBench x = new NetlistBench();
        for (int place : new int[] {-1, 4, 5, -4, Integer.MAX_VALUE, Integer.MIN_VALUE}) {
            Check.due("word(" + place + ")", x.word(place), BAD);
        }
        for (int place = 0; place < 4; place++) {
            Check.due("word(" + place + ")", x.word(place), 0);
        }
    }
}
