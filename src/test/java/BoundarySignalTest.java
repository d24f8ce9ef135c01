/** The boundary cases of making signals, a method for each sentence: Terms, promises 1, 2 and 17. */
public final class BoundarySignalTest {
    private static final int BAD = NetlistBench.BAD;
    private static final int FULL = NetlistBench.FULL;
    private static final int MIN = Integer.MIN_VALUE;
    private static final int MAX = Integer.MAX_VALUE;

    public static void main(String[] args) {
        atMostTwentyFour();
        registerAsTheLast();
        otherKindsAsTheLast();
        widthsOneToSix();
        turnedOver();
        logic();
        sumsWrapAround();
        productsWrapAround();
        comparisons();
        choice();
        shifts();
        joinedSignals();
        slices();
        ones();
        wordAtAPlace();
        sameWidths();
        widthOfTheSignal();
        costLimit();
        nothingCostsNothing();
        widthLimit();
        newObject();
        twentyFourAreThere();
        kindOutside();
        operandNotAsItMustBe();
        operandsAreEarlierSignals();
        widthNotOneToSix();
        limitPassed();
        badBeforeALimit();
        firstValues();
        constantAndRegisterNumbers();
        sliceNumbers();
        operandsThatAKindDoesNotHave();
        refusedSignalsLeaveNothing();
        callFiveHundredAndTwelve();
        Check.end();
    }

    private static int top(int width) {
        return (1 << width) - 1;
    }

    private static void atMostTwentyFour() {
        Check.sentence("Terms", "SIGNALS are made one a call and numbered from 0, at most 24");
        for (int kind = 0; kind <= 3; kind++) {
            NetlistBench x = new NetlistBench();
            x.signal(1, 2, 1, 0);
            for (int i = 1; i < 24; i++) {
                Check.due("signal number " + i + " of kind " + kind, x.signal(kind, kind == 3 ? 0 : 2, 0, 0), i);
            }
            Check.due("a 25th of kind " + kind, x.signal(kind, kind == 3 ? 0 : 2, 0, 0), FULL);
            Check.due("a 25th, again", x.signal(kind, kind == 3 ? 0 : 2, 0, 0), FULL);
            Check.due("the 24th is there", x.peek(23), kind == 3 ? 2 : 0);
            Check.due("the 25th is not", x.peek(24), BAD);
        }
    }

    /** 0: an input of width 4; 1: a place, 3; 2: the constant 1; with more constants 23 signals in all. */
    private static NetlistBench allButOne() {
        NetlistBench x = Circuits.inputs(4);
        x.signal(1, 2, 3, 0);
        for (int s = 2; s < 23; s++) {
            x.signal(1, 1, 1, 0);
        }
        return x;
    }

    private static void registerAsTheLast() {
        Check.sentence("Terms", "at most 24");
        NetlistBench x = allButOne();
        Check.due("signal", x.signal(2, 4, 5, 0), 23);
        Check.due("connect", x.connect(23, 0, 22), true);
        Check.due("port", x.port(1, 23, 22), true);
        Check.due("drive", x.drive(0, 10), true);
        Check.due("clock", x.clock(1), 4 + 2);
        Check.due("peek", x.peek(23), 10);
        Check.due("word", x.word(3), 5);
        x.keep();
        x.reset();
        Check.due("reset", x.peek(23), 5);
        Check.due("reset of the memory", x.word(3), 0);
        x.back();
        Check.due("back", x.peek(23), 10);
        Check.due("back of the memory", x.word(3), 5);
        Check.due("equivalent", x.equivalent(23, 0), 0);
        Check.due("equivalent to itself", x.equivalent(23, 23), 1);
        Check.due("satisfied", x.satisfied(23), 15);
        Check.due("depth", x.depth(23), 0);
        Check.due("force", x.force(23, 15), true);
        Check.due("forced", x.peek(23), 15);
        Check.due("level", x.level(0), true);
        Check.due("there is no 24", x.force(24, 0), false);
        Check.due("there is no 24", x.connect(23, 24, -1), false);
        Check.due("there is no 24", x.satisfied(24), BAD);
    }

    private static void otherKindsAsTheLast() {
        Check.sentence("Terms", "at most 24");
        NetlistBench x = allButOne();
        Check.due("an input", x.signal(0, 4, 0, 0), 23);
        Check.due("drive", x.drive(23, 15), true);
        Check.due("peek", x.peek(23), 15);
        Check.due("satisfied", x.satisfied(23), 15);
        Check.due("equivalent", x.equivalent(0, 23), 0);
        NetlistBench y = allButOne();
        Check.due("a word", y.signal(18, 1, 0, 0), 23);
        Check.due("port", y.port(1, 0, 2), true);
        y.drive(0, 9);
        Check.due("clock", y.clock(1), 2);
        Check.due("peek", y.peek(23), 9);
        Check.due("satisfied", y.satisfied(23), NetlistBench.OPEN);
        Check.due("depth", y.depth(23), 1);
        NetlistBench z = allButOne();
        Check.due("a gate", z.signal(3, 0, 0, 0), 23);
        Check.due("peek", z.peek(23), 15);
        Check.due("satisfied", z.satisfied(23), 15);
        Check.due("equivalent", z.equivalent(23, 0), 0);
        Check.due("depth", z.depth(23), 1);
    }

    private static void widthsOneToSix() {
        Check.sentence("Terms",
            "a signal has a WIDTH of 1 to 6 bits and, at every time, a VALUE from 0 to 2^width - 1");
        for (int width = 1; width <= 6; width++) {
            NetlistBench x = new NetlistBench();
            Check.due("an input", x.signal(0, width, 0, 0), 0);
            Check.due("a constant", x.signal(1, width, top(width), 0), 1);
            Check.due("a register", x.signal(2, width, top(width), 0), 2);
            x.drive(0, top(width));
            for (int s = 0; s < 3; s++) {
                Check.due("the greatest value of width " + width, x.peek(s), top(width));
                Check.due("all ways but 0", x.satisfied(s), s == 1 ? 1 : top(width));
            }
        }
    }

    /** Looks at kind over x and y as driven inputs, as constants and as registers. */
    private static void dueOf(int kind, int widthX, int a, int widthY, int b, int want) {
        for (int source = 0; source <= 2; source++) {
            NetlistBench x = new NetlistBench();
            x.signal(source, widthX, a, 0);
            x.signal(source, widthY, b, 0);
            Check.due("kind " + kind + " is made", x.signal(kind, 0, 1, 0), 2);
            x.drive(0, a);
            x.drive(1, b);
            Check.due("kind " + kind + " of " + a + " and " + b + ", widths " + widthX + " and " + widthY,
                x.peek(2), want);
        }
    }

    private static void turnedOver() {
        Check.sentence("Terms", "3 all bits of x turned over");
        for (int width = 1; width <= 6; width++) {
            dueOf(3, width, 0, 1, 0, top(width));
            dueOf(3, width, top(width), 1, 0, 0);
            dueOf(3, width, 1, 1, 0, top(width) - 1);
        }
    }

    private static void logic() {
        Check.sentence("Terms", "4 x & y [..] 5 x | y [..] 6 x ^ y");
        for (int width = 1; width <= 6; width++) {
            int all = top(width);
            dueOf(4, width, all, width, all, all);
            dueOf(4, width, all, width, 0, 0);
            dueOf(5, width, 0, width, 0, 0);
            dueOf(5, width, 0, width, all, all);
            dueOf(5, width, all, width, all, all);
            dueOf(6, width, all, width, all, 0);
            dueOf(6, width, all, width, 0, all);
            dueOf(6, width, 0, width, all, all);
        }
    }

    private static void sumsWrapAround() {
        Check.sentence("Terms", "7 (x + y) modulo 2^w [..] 8 (x - y) modulo 2^w");
        for (int width = 1; width <= 6; width++) {
            int all = top(width);
            dueOf(7, width, all, width, 0, all);
            dueOf(7, width, all, width, 1, 0);
            dueOf(7, width, 1, width, all, 0);
            dueOf(7, width, all, width, all, all - 1);
            dueOf(8, width, all, width, all, 0);
            dueOf(8, width, 0, width, 1, all);
            dueOf(8, width, 0, width, all, 1);
            dueOf(8, width, all, width, 0, all);
            dueOf(8, width, all - 1, width, all, all);
        }
    }

    private static void productsWrapAround() {
        Check.sentence("Terms", "9 (x * y) modulo 2^w, w at most 3");
        for (int width = 1; width <= 3; width++) {
            dueOf(9, width, top(width), width, top(width), 1);
            dueOf(9, width, top(width), width, 0, 0);
            dueOf(9, width, 1, width, top(width), top(width));
        }
        dueOf(9, 2, 2, 2, 2, 0);
        dueOf(9, 3, 4, 3, 2, 0);
        dueOf(9, 3, 3, 3, 3, 1);
        for (int width = 4; width <= 6; width++) {
            Check.due("a product of width " + width, Circuits.inputs(width, width).signal(9, 0, 1, 0), BAD);
        }
    }

    private static void comparisons() {
        Check.sentence("Terms", "10 1 if x < y, else 0 [..] 11 1 if x = y, else 0 (width 1)");
        for (int width = 1; width <= 6; width++) {
            int all = top(width);
            dueOf(10, width, 0, width, all, 1);
            dueOf(10, width, all - 1, width, all, 1);
            dueOf(10, width, all, width, all, 0);
            dueOf(10, width, 0, width, 0, 0);
            dueOf(10, width, all, width, 0, 0);
            dueOf(11, width, 0, width, 0, 1);
            dueOf(11, width, all, width, all, 1);
            dueOf(11, width, 0, width, all, 0);
            dueOf(11, width, all, width, all - 1, 0);
            for (int kind = 10; kind <= 11; kind++) {
                NetlistBench x = Circuits.inputs(width, width);
                x.signal(kind, 0, 1, 0);
                Check.due("kind " + kind + " has width 1", x.force(2, 1), true);
                Check.due("kind " + kind + " has no 2", x.force(2, 2), false);
            }
        }
    }

    private static void choice() {
        Check.sentence("Terms", "12 y if x is 1, else z (x of width 1)");
        for (int width = 1; width <= 6; width++) {
            NetlistBench x = Circuits.inputs(1, width, width, 2);
            Check.due("x of width 1", x.signal(12, 0, 1, 2), 4);
            x.drive(1, top(width));
            Check.due("x is 0: z", x.peek(4), 0);
            x.drive(0, 1);
            Check.due("x is 1: y", x.peek(4), top(width));
            Check.due("x of width 2", x.signal(12, 3, 1, 2), BAD);
            if (width > 1) {
                Check.due("x of width " + width, x.signal(12, 1, 1, 2), BAD);
            }
        }
    }

    private static void shifts() {
        Check.sentence("Terms", "13 (x * 2^y) modulo 2^w, and 14 x / 2^y rounded down (y of width 2)");
        for (int width = 1; width <= 6; width++) {
            int all = top(width);
            dueOf(13, width, all, 2, 0, all);
            dueOf(13, width, all, 2, 1, all - 1);
            dueOf(13, width, all, 2, 3, width <= 3 ? 0 : all - 7);
            dueOf(14, width, all, 2, 0, all);
            dueOf(14, width, all, 2, 1, all / 2);
            dueOf(14, width, all, 2, 3, all / 8);
            for (int widthY = 1; widthY <= 6; widthY++) {
                for (int kind = 13; kind <= 14; kind++) {
                    int want = widthY == 2 ? 2 : BAD;
                    Check.due("y of width " + widthY, Circuits.inputs(width, widthY).signal(kind, 0, 1, 0), want);
                }
            }
        }
    }

    private static void joinedSignals() {
        Check.sentence("Terms", "15 x * 2^(width of y) + y, a signal of both widths together");
        for (int a = 1; a <= 6; a++) {
            for (int b = 1; b <= 6; b++) {
                if (a + b <= 6) {
                    dueOf(15, a, top(a), b, 0, top(a + b) - top(b));
                    dueOf(15, a, 0, b, top(b), top(b));
                    dueOf(15, a, top(a), b, top(b), top(a + b));
                } else {
                    Check.due("widths " + a + " and " + b, Circuits.inputs(a, b).signal(15, 0, 1, 0), BAD);
                }
            }
        }
        NetlistBench x = Circuits.inputs(3);
        Check.due("a signal with itself, 6 together", x.signal(15, 0, 0, 0), 1);
        Check.due("6 and 3 together", x.signal(15, 1, 0, 0), BAD);
    }

    private static void slices() {
        Check.sentence("Terms", "16 bits y to y + z - 1 of x (numbers y and z), a signal of width z");
        for (int width = 1; width <= 6; width++) {
            for (int low = 0; low < width; low++) {
                for (int size = 1; low + size <= width; size++) {
                    NetlistBench x = new NetlistBench();
                    x.signal(2, width, top(width), 0);
                    x.signal(2, width, top(width) ^ top(size) << low, 0);
                    x.signal(16, 0, low, size);
                    x.signal(16, 1, low, size);
                    Check.due("all of them 1", x.peek(2), top(size));
                    Check.due("all of them 0", x.peek(3), 0);
                    Check.due("width " + size, x.force(2, top(size)), true);
                    Check.due("not width " + (size + 1), x.force(2, top(size) + 1), false);
                }
            }
        }
    }

    private static void ones() {
        Check.sentence("Terms", "17 how many bits of x are 1, of width 3");
        for (int width = 1; width <= 6; width++) {
            dueOf(17, width, 0, 1, 0, 0);
            dueOf(17, width, top(width), 1, 0, width);
            dueOf(17, width, 1 << width - 1, 1, 0, 1);
            NetlistBench x = Circuits.inputs(width);
            x.signal(17, 0, 0, 0);
            Check.due("width 3", x.force(1, 7), true);
            Check.due("not width 4", x.force(1, 8), false);
        }
    }

    private static void wordAtAPlace() {
        Check.sentence("Terms", "18 the word of the MEMORY at place x (x of width 2), of width 4");
        for (int width = 1; width <= 6; width++) {
            Check.due("x of width " + width, Circuits.inputs(width).signal(18, 0, 0, 0), width == 2 ? 1 : BAD);
        }
        NetlistBench x = new NetlistBench();
        x.signal(0, 2, 0, 0);
        x.signal(1, 4, 15, 0);
        x.signal(1, 1, 1, 0);
        x.signal(18, 0, 0, 0);
        x.port(0, 1, 2);
        for (int place = 0; place <= 3; place += 3) {
            x.drive(0, place);
            Check.due("nothing yet at " + place, x.peek(3), 0);
            x.clock(1);
            Check.due("15 at " + place, x.peek(3), 15);
        }
        for (int place = 1; place <= 2; place++) {
            x.drive(0, place);
            Check.due("nothing at " + place, x.peek(3), 0);
        }
        Check.due("width 4", x.force(3, 15), true);
        Check.due("not width 5", x.force(3, 16), false);
    }

    private static void sameWidths() {
        Check.sentence("Terms", "In kinds 4 to 11 x and y, and in kind 12 y and z, must have the same width");
        for (int a = 1; a <= 6; a++) {
            for (int b = 1; b <= 6; b++) {
                for (int kind = 4; kind <= 11; kind++) {
                    int want = a == b && (kind != 9 || a <= 3) ? 2 : BAD;
                    String call = "kind " + kind + " over widths " + a + " and " + b;
                    Check.due(call, Circuits.inputs(a, b).signal(kind, 0, 1, 0), want);
                }
                String call = "kind 12 over widths " + a + " and " + b;
                Check.due(call, Circuits.inputs(a, b, 1).signal(12, 2, 0, 1), a == b ? 3 : BAD);
            }
        }
    }

    /** Makes kind over a bench of sixInputs and looks whether it has exactly this width. */
    private static void dueWidth(int width, int kind, int a, int b, int c) {
        NetlistBench x = Circuits.sixInputs();
        String call = "signal(" + kind + ", " + a + ", " + b + ", " + c + ")";
        Check.due(call, x.signal(kind, a, b, c), 6);
        Check.due(call + " has width " + width, x.force(6, top(width)), true);
        Check.due(call + " is no wider", x.force(6, top(width) + 1), false);
    }

    private static void widthOfTheSignal() {
        Check.sentence("Terms", "w is that of x (of y in kind 12, of x in kinds 3, 13 and 14)");
        for (int width = 1; width <= 6; width++) {
            int s = width - 1;
            dueWidth(width, 3, s, 0, 0);
            for (int kind = 4; kind <= (width <= 3 ? 9 : 8); kind++) {
                dueWidth(width, kind, s, s, 0);
            }
            dueWidth(width, 12, 0, s, s);
            dueWidth(width, 13, s, 1, 0);
            dueWidth(width, 14, s, 1, 0);
        }
    }

    /** A signal of this cost fits where it takes the costs to 220 and not where it takes them to 221. */
    private static void costs(int cost, int kind, int a, int b, int c) {
        String call = "signal(" + kind + ", " + a + ", " + b + ", " + c + ")";
        NetlistBench x = Circuits.sixInputs();
        Circuits.spend(x, 220 - cost);
        Check.due(call + " to 220 together", x.signal(kind, a, b, c) >= 0, true);
        Check.due("1 more", x.signal(4, 0, 0, 0), FULL);
        NetlistBench y = Circuits.sixInputs();
        Circuits.spend(y, 221 - cost);
        Check.due(call + " to 221 together", y.signal(kind, a, b, c), FULL);
        Circuits.spend(y, cost - 1);
        Check.due("1 more", y.signal(4, 0, 0, 0), FULL);
    }

    private static void costLimit() {
        Check.sentence("Terms", "The costs of all signals together are at most 220");
        for (int w = 1; w <= 6; w++) {
            int s = w - 1;
            costs(3 * w, 2, w, 0, 0);
            costs(w, 4, s, s, 0);
            costs(w, 5, s, s, 0);
            costs(3 * w, 6, s, s, 0);
            costs(9 * w, 7, s, s, 0);
            costs(9 * w, 8, s, s, 0);
            if (w <= 3) {
                costs(10 * w * w, 9, s, s, 0);
            }
            costs(8 * w, 10, s, s, 0);
            costs(4 * w, 11, s, s, 0);
            costs(3 * w, 12, 0, s, s);
            costs(6 * w, 13, s, 1, 0);
            costs(6 * w, 14, s, 1, 0);
            costs(12 * w, 17, s, 0, 0);
        }
        costs(40, 18, 1, 0, 0);
    }

    private static void nothingCostsNothing() {
        Check.sentence("Terms", "cost 0");
        NetlistBench x = Circuits.sixInputs();
        Circuits.spend(x, 220);
        int made = x.signal(0, 6, 0, 0);
        Check.due("an input at 220", made >= 0, true);
        Check.due("a constant at 220", x.signal(1, 6, 63, 0), made + 1);
        Check.due("all bits turned over at 220", x.signal(3, 5, 0, 0), made + 2);
        Check.due("two joined at 220", x.signal(15, 2, 2, 0), made + 3);
        Check.due("a slice at 220", x.signal(16, 5, 0, 6), made + 4);
    }

    private static void widthLimit() {
        Check.sentence("Terms", "the widths of all inputs and registers together at most 60 (the LIMITS)");
        for (int kind = 0; kind <= 2; kind += 2) {
            for (int last = 1; last <= 6; last++) {
                NetlistBench x = new NetlistBench();
                for (int i = 0; i < 9; i++) {
                    Check.due("six of " + 6 * (i + 1), x.signal(kind, 6, 0, 0), i);
                }
                x.signal(2 - kind, 6 - last + 1, 0, 0);
                Check.due("to 61 together", x.signal(kind, last, 0, 0), FULL);
                if (last > 1) {
                    Check.due("to 60 together", x.signal(kind, last - 1, 0, 0), 10);
                }
                Check.due("60 and an input", x.signal(0, 1, 0, 0), FULL);
                Check.due("60 and a register", x.signal(2, 1, 0, 0), FULL);
                Check.due("60 and a constant", x.signal(1, 6, 0, 0) >= 10, true);
                Check.due("60 and a gate", x.signal(3, 0, 0, 0) >= 11, true);
            }
        }
    }

    private static void newObject() {
        Check.sentence("Promise 1", "`NetlistBench()`: No signals, nothing forced; the level is 2.");
        NetlistBench x = new NetlistBench();
        for (int s = -1; s <= 24; s++) {
            Check.due("peek(" + s + ") of a new object", x.peek(s), BAD);
            Check.due("depth(" + s + ") of a new object", x.depth(s), BAD);
            Check.due("satisfied(" + s + ") of a new object", x.satisfied(s), BAD);
            Check.due("equivalent(" + s + ", " + s + ") of a new object", x.equivalent(s, s), BAD);
            Check.due("force(" + s + ", -1) of a new object", x.force(s, -1), false);
            Check.due("force(" + s + ", 0) of a new object", x.force(s, 0), false);
            Check.due("drive(" + s + ", 0) of a new object", x.drive(s, 0), false);
            Check.due("connect(" + s + ", " + s + ", -1) of a new object", x.connect(s, s, -1), false);
            Check.due("port of a new object", x.port(s, s, s), false);
        }
        for (int kind = 3; kind <= 18; kind++) {
            Check.due("kind " + kind + " over no signals", x.signal(kind, 0, 0, 0), BAD);
        }
        Check.due("no register changes", x.clock(40), 0);
        for (int s = 0; s < 24; s++) {
            x.signal(1, 2, 3, 0);
            Check.due("signal " + s + " is not forced", x.peek(s), 3);
        }
    }

    private static void twentyFourAreThere() {
        Check.sentence("Promise 2", "Tested in this order: 24 are there: FULL; kind outside 0..18: BAD");
        NetlistBench x = new NetlistBench();
        for (int i = 0; i < 24; i++) {
            x.signal(1, 1, 0, 0);
        }
        for (int kind : new int[] {-1, 19, MIN, MAX}) {
            Check.due("kind " + kind + ", 24 are there", x.signal(kind, 0, 0, 0), FULL);
        }
        for (int kind = 0; kind <= 18; kind++) {
            Check.due("kind " + kind + " with operands -1, 24 are there", x.signal(kind, -1, -1, -1), FULL);
        }
        Check.due("a product, 24 are there", x.signal(9, 0, 1, 0), FULL);
    }

    private static void kindOutside() {
        Check.sentence("Promise 2", "kind outside 0..18: BAD");
        NetlistBench x = Circuits.inputs(2);
        for (int kind : new int[] {-2, -1, 19, 20}) {
            Check.due("kind " + kind, x.signal(kind, 0, 0, 0), BAD);
        }
        for (int kind : Circuits.FAR) {
            Check.due("kind " + kind, x.signal(kind, 0, 0, 0), BAD);
        }
        Check.due("kind 0", x.signal(0, 1, 0, 0), 1);
        Check.due("kind 18", x.signal(18, 0, 0, 0), 2);
    }

    /** Signals of widths 1 to 6, twice: signal i has width i % 6 + 1. */
    private static NetlistBench twelveConstants() {
        NetlistBench x = new NetlistBench();
        for (int i = 0; i < 12; i++) {
            x.signal(1, i % 6 + 1, 0, 0);
        }
        return x;
    }

    private static void operandNotAsItMustBe() {
        Check.sentence("Promise 2", "an operand is not as it must be: BAD");
        int[][] good = {{3, 5, 0, 0}, {4, 5, 11, 0}, {5, 5, 11, 0}, {6, 5, 11, 0}, {7, 5, 11, 0}, {8, 5, 11, 0},
            {9, 2, 8, 0}, {10, 5, 11, 0}, {11, 5, 11, 0}, {12, 0, 5, 11}, {13, 5, 1, 0}, {14, 5, 7, 0}, {15, 2, 8, 0},
            {16, 5, 0, 6}, {17, 5, 0, 0}, {18, 1, 0, 0}};
        int[] has = {0, 0, 0, 1, 2, 2, 2, 2, 2, 2, 2, 2, 3, 2, 2, 2, 1, 1, 1};
        for (int[] call : good) {
            for (int which = 1; which <= has[call[0]]; which++) {
                NetlistBench x = twelveConstants();
                for (int s : new int[] {-2, -1, 12, 13}) {
                    refuses(x, call, which, s);
                }
                for (int s : Circuits.FAR) {
                    refuses(x, call, which, s);
                }
                Check.due("kind " + call[0] + " as it must be", x.signal(call[0], call[1], call[2], call[3]), 12);
            }
        }
    }

    private static void refuses(NetlistBench x, int[] call, int which, int operand) {
        int[] bad = call.clone();
        bad[which] = operand;
        String name = "signal(" + bad[0] + ", " + bad[1] + ", " + bad[2] + ", " + bad[3] + ")";
        Check.due(name, x.signal(bad[0], bad[1], bad[2], bad[3]), BAD);
    }

    private static void operandsAreEarlierSignals() {
        Check.sentence("Terms", "their operands x, y, z (earlier signals where nothing else is said)");
        NetlistBench x = Circuits.inputs(1);
        Check.due("the signal itself as x", x.signal(3, 1, 0, 0), BAD);
        Check.due("the signal itself as y", x.signal(4, 0, 1, 0), BAD);
        Check.due("the signal itself as z", x.signal(12, 0, 0, 1), BAD);
        Check.due("the one before it", x.signal(12, 0, 0, 0), 1);
        Check.due("the one before it as z", x.signal(12, 0, 0, 1), 2);
    }

    private static void widthNotOneToSix() {
        Check.sentence("Promise 2", "a width would not be 1 to 6: BAD");
        NetlistBench x = Circuits.sixInputs();
        for (int kind = 0; kind <= 2; kind++) {
            for (int width : new int[] {-1, 0, 7, 8, 31, 32, 33, 38}) {
                Check.due("kind " + kind + " of width " + width, x.signal(kind, width, 0, 0), BAD);
            }
            for (int width : Circuits.FAR) {
                Check.due("kind " + kind + " of width " + width, x.signal(kind, width, 0, 0), BAD);
            }
        }
        Check.due("7 joined of 1 and 6", x.signal(15, 0, 5, 0), BAD);
        Check.due("7 joined of 6 and 1", x.signal(15, 5, 0, 0), BAD);
        Check.due("12 joined", x.signal(15, 5, 5, 0), BAD);
        Check.due("6 joined", x.signal(15, 4, 0, 0), 6);
        Check.due("2 joined", x.signal(15, 0, 0, 0), 7);
        Check.due("a slice of width 0", x.signal(16, 5, 0, 0), BAD);
        Check.due("a slice of width 7", x.signal(16, 5, 0, 7), BAD);
    }

    private static void limitPassed() {
        Check.sentence("Promise 2", "a limit would be passed: FULL");
        NetlistBench x = Circuits.sixInputs();
        Circuits.spend(x, 218);
        Check.due("218 and 3", x.signal(4, 2, 2, 0), FULL);
        Check.due("218 and a register", x.signal(2, 1, 1, 0), FULL);
        Check.due("218 and a word", x.signal(18, 1, 0, 0), FULL);
        Check.due("218 and 2", x.signal(4, 1, 1, 0) >= 0, true);
        NetlistBench y = Circuits.inputs(6, 6, 6, 6, 6, 6, 6, 6, 6, 4);
        Check.due("58 and 3", y.signal(0, 3, 0, 0), FULL);
        Check.due("58 and a register of width 3", y.signal(2, 3, 7, 0), FULL);
        Check.due("58 and 2", y.signal(2, 2, 3, 0), 10);
    }

    private static void badBeforeALimit() {
        Check.sentence("Promise 2",
            "Tested in this order: [..] an operand is not as it must be: BAD; a width would not be 1 to 6: "
            + "BAD; a limit would be passed: FULL");
        NetlistBench x = Circuits.inputs(6, 6, 6, 6, 6, 6, 6, 6, 6, 4, 2);
        for (int i = 0; i < 5; i++) {
            x.signal(18, 10, 0, 0);
        }
        Check.due("200 and 54", x.signal(7, 0, 1, 0), FULL);
        Check.due("a limit and a wrong kind", x.signal(19, 0, 1, 0), BAD);
        Check.due("a limit and operands of two widths", x.signal(7, 0, 9, 0), BAD);
        Check.due("a limit and no operand", x.signal(7, 0, 16, 0), BAD);
        Check.due("a limit and a product of width 6", x.signal(9, 0, 1, 0), BAD);
        Check.due("a limit and a place of width 6", x.signal(18, 0, 0, 0), BAD);
        Check.due("a limit and an input of width 7", x.signal(0, 7, 0, 0), BAD);
        Check.due("a limit and a register of width 7", x.signal(2, 7, 0, 0), BAD);
        Check.due("a limit and a first value of 64", x.signal(2, 6, 64, 0), BAD);
        Check.due("a limit and a first value of 63", x.signal(2, 6, 63, 0), FULL);
        Check.due("a limit and an input of width 1", x.signal(0, 1, 0, 0), FULL);
    }

    private static void firstValues() {
        Check.sentence("Promise 2", "An input has the value 0, a register its first value.");
        for (int width = 1; width <= 6; width++) {
            NetlistBench x = new NetlistBench();
            x.signal(0, width, top(width), top(width));
            x.signal(2, width, 0, top(width));
            x.signal(2, width, top(width), 0);
            Check.due("an input", x.peek(0), 0);
            Check.due("the first value 0", x.peek(1), 0);
            Check.due("the greatest first value", x.peek(2), top(width));
        }
    }

    private static void constantAndRegisterNumbers() {
        Check.sentence("Promise 17", "for the constant and the register y must be 0 to 2^x - 1");
        for (int kind = 1; kind <= 2; kind++) {
            for (int width = 1; width <= 6; width++) {
                NetlistBench x = new NetlistBench();
                String which = "kind " + kind + " of width " + width + " and ";
                Check.due(which + "-1", x.signal(kind, width, -1, 0), BAD);
                Check.due(which + (top(width) + 1), x.signal(kind, width, top(width) + 1, 0), BAD);
                for (int y : Circuits.FAR) {
                    if (y < 0 || y > top(width)) {
                        Check.due(which + y, x.signal(kind, width, y, 0), BAD);
                    }
                }
                Check.due(which + "0", x.signal(kind, width, 0, 0), 0);
                Check.due(which + top(width), x.signal(kind, width, top(width), 0), 1);
                Check.due("has it", x.peek(0), 0);
                Check.due("has it", x.peek(1), top(width));
            }
        }
    }

    private static void sliceNumbers() {
        Check.sentence("Promise 17",
            "in kind 16 y must be 0 or more, z 1 or more, and y + z at most the width of x (else BAD)");
        int[] numbers = {MIN, MIN + 1, -7, -1, 0, 1, 2, 3, 4, 5, 6, 7, 8, MAX - 6, MAX - 1, MAX};
        for (int width = 1; width <= 6; width++) {
            for (int y : numbers) {
                for (int z : numbers) {
                    boolean fits = y >= 0 && z >= 1 && (long) y + z <= width;
                    String call = "bits from " + y + ", " + z + " of them, of width " + width;
                    Check.due(call, Circuits.inputs(width).signal(16, 0, y, z), fits ? 1 : BAD);
                }
            }
        }
    }

    private static void operandsThatAKindDoesNotHave() {
        Check.sentence("Promise 17", "operands that a kind does not have may be any ints");
        for (int wild : new int[] {MIN, -2, -1, 0, 23, 24, 1000, MAX}) {
            NetlistBench x = new NetlistBench();
            x.signal(0, 2, wild, wild);
            x.signal(1, 2, 2, wild);
            x.signal(2, 2, 1, wild);
            x.signal(3, 0, wild, wild);
            for (int kind = 4; kind <= 11; kind++) {
                x.signal(kind, 2, 1, wild);
            }
            x.signal(13, 2, 1, wild);
            x.signal(14, 1, 2, wild);
            x.signal(15, 2, 1, wild);
            x.signal(17, 10, wild, wild);
            x.signal(18, 0, wild, wild);
            int[] values = {0, 2, 1, 3, 0, 3, 3, 3, 3, 2, 1, 0, 0, 1, 6, 1, 0};
            int[] depths = {0, 0, 0, 1, 1, 1, 1, 1, 1, 1, 1, 1, 1, 1, 1, 2, 1};
            for (int s = 0; s < values.length; s++) {
                Check.due("signal " + s + " beside " + wild, x.peek(s), values[s]);
                Check.due("its depth", x.depth(s), depths[s]);
            }
            Check.due("the support of the sum is the register alone", x.satisfied(7), 3);
        }
    }

    private static void refusedSignalsLeaveNothing() {
        Check.sentence("Promise 2", "Else answers its number.");
        NetlistBench x = Circuits.sixInputs();
        for (int i = 0; i < 30; i++) {
            x.signal(19, 0, 0, 0);
            x.signal(9, 5, 5, 0);
            x.signal(0, 7, 0, 0);
            x.signal(2, 6, 64, 0);
            x.signal(16, 5, 3, 4);
        }
        Check.due("no signal was made", x.peek(6), BAD);
        Check.due("no widths were counted: 21 and 6", x.signal(0, 6, 0, 0), 6);
        Circuits.spend(x, 220);
        Check.due("no costs were counted", x.signal(4, 0, 0, 0), FULL);
        int next = 7;
        while (next < 24 && x.peek(next) != BAD) {
            next++;
        }
        for (int i = 0; i < 5; i++) {
            Check.due("nor for FULL: 27 and on", x.signal(0, 6, 0, 0), next + i);
            Check.due("a register is too dear", x.signal(2, 6, 0, 0), FULL);
        }
        Check.due("57 and 4", x.signal(0, 4, 0, 0), FULL);
        Check.due("57 and 3", x.signal(0, 3, 0, 0), next + 5);
    }

    private static void callFiveHundredAndTwelve() {
        Check.sentence("What it is", "An object is used for at most 512 calls after it has been made");
        for (int last = 0; last <= 6; last++) {
            NetlistBench x = new NetlistBench();
            x.signal(2, 6, 0, 0);
            x.signal(3, 0, 0, 0);
            x.connect(0, 1, -1);
            for (int calls = 4; calls <= 511; calls++) {
                Check.due("call " + calls, x.clock(1), 6);
            }
            switch (last) {
                case 0: Check.due("call 512: signal", x.signal(3, 1, 0, 0), 2); break;
                case 1: Check.due("call 512: clock", x.clock(40), 240); break;
                case 2: Check.due("call 512: peek", x.peek(1), 63); break;
                case 3: Check.due("call 512: equivalent", x.equivalent(0, 1), 0); break;
                case 4: Check.due("call 512: satisfied", x.satisfied(1), 63); break;
                case 5: Check.due("call 512: connect", x.connect(0, 0, -1), true); break;
                default: Check.due("call 512: depth", x.depth(1), 1); break;
            }
        }
    }
}
