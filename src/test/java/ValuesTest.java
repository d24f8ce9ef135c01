/** Promises 5, 6 and 7: the values of all kinds, driven and forced. */
public final class ValuesTest {
    private static final int BAD = NetlistBench.BAD;

    public static void main(String[] args) {
        everyKindWithEveryValue();
        choosing();
        joining();
        slicing();
        readingMemory();
        driving();
        forcing();
        forcingEveryKind();
        forcedInputs();
        peeking();
        Check.end();
    }

    private static void everyKindWithEveryValue() {
        for (int kind : new int[] {3, 4, 5, 6, 7, 8, 9, 10, 11, 13, 14, 17}) {
            for (int width = 1; width <= (kind == 9 ? 3 : 6); width++) {
                for (int a = 0; a < 1 << width; a++) {
                    kindWithEveryY(kind, width, a);
                }
            }
        }
    }

    // One object for each a: nothing is promised after an object's 512th call.
    private static void kindWithEveryY(int kind, int width, int a) {
        int widthY = kind == 13 || kind == 14 ? 2 : width;
        NetlistBench x = new NetlistBench();
        x.signal(0, width, 0, 0);
        x.signal(0, widthY, 0, 0);
        x.signal(kind, 0, 1, 0);
        x.drive(0, a);
        for (int b = 0; b < 1 << widthY; b++) {
            x.drive(1, b);
            Check.due("kind " + kind + " of " + a + ", " + b, x.peek(2), formula(kind, width, a, b));
        }
    }

    private static int formula(int kind, int width, int a, int b) {
        int size = 1;
        for (int i = 0; i < width; i++) {
            size *= 2;
        }
        switch (kind) {
            case 3: return size - 1 - a;
            case 4: return a & b;
            case 5: return a + b - (a & b);
            case 6: return (a | b) - (a & b);
            case 7: return (a + b) % size;
            case 8: return (a - b + size) % size;
            case 9: return a * b % size;
            case 10: return a < b ? 1 : 0;
            case 11: return a == b ? 1 : 0;
            case 13: return a * (int) Math.pow(2, b) % size;
            case 14: return a / (int) Math.pow(2, b);
            default: return Integer.bitCount(a);
        }
    }

    private static void choosing() {
        NetlistBench x = new NetlistBench();
        x.signal(0, 1, 0, 0);
        x.signal(1, 6, 41, 0);
        x.signal(1, 6, 22, 0);
        x.signal(12, 0, 1, 2);
        Check.due("else z", x.peek(3), 22);
        x.drive(0, 1);
        Check.due("y", x.peek(3), 41);
    }

    private static void joining() {
        for (int width = 1; width <= 5; width++) {
            NetlistBench x = new NetlistBench();
            x.signal(0, width, 0, 0);
            x.signal(0, 6 - width, 0, 0);
            x.signal(15, 0, 1, 0);
            for (int a = 0; a < 1 << width; a++) {
                for (int b = 0; b < 1 << 6 - width; b++) {
                    x.drive(0, a);
                    x.drive(1, b);
                    Check.due(a + " joined with " + b, x.peek(2), a * (64 >> width) + b);
                }
            }
        }
    }

    private static void slicing() {
        for (int low = 0; low < 6; low++) {
            for (int width = 1; low + width <= 6; width++) {
                NetlistBench x = new NetlistBench();
                x.signal(0, 6, 0, 0);
                x.signal(16, 0, low, width);
                for (int a = 0; a < 64; a++) {
                    x.drive(0, a);
                    int want = 0;
                    for (int i = 0; i < width; i++) {
                        want += (a & 1 << low + i) != 0 ? 1 << i : 0;
                    }
                    Check.due("bits from " + low + ", " + width + " of them, of " + a, x.peek(1), want);
                }
            }
        }
    }

    private static void readingMemory() {
        NetlistBench x = new NetlistBench();
        x.signal(0, 2, 0, 0);
        x.signal(0, 4, 0, 0);
        x.signal(1, 1, 1, 0);
        x.signal(0, 2, 0, 0);
        x.signal(18, 3, 0, 0);
        x.port(0, 1, 2);
        for (int place = 0; place < 4; place++) {
            x.drive(0, place);
            x.drive(1, 15 - 3 * place);
            x.clock(1);
        }
        for (int place = 0; place < 4; place++) {
            x.drive(3, place);
            Check.due("the word at " + place, x.peek(4), 15 - 3 * place);
        }
        x.force(3, 1);
        Check.due("the word at a forced place", x.peek(4), 12);
    }

    private static void driving() {
        NetlistBench x = new NetlistBench();
        x.signal(0, 3, 0, 0);
        x.signal(1, 3, 2, 0);
        x.signal(2, 3, 4, 0);
        x.signal(3, 0, 0, 0);
        Check.due("drive(0, 7)", x.drive(0, 7), true);
        Check.due("peek(0)", x.peek(0), 7);
        Check.due("peek(3)", x.peek(3), 0);
        for (int value : new int[] {8, -1, -2, Integer.MAX_VALUE, Integer.MIN_VALUE}) {
            Check.due("drive(0, " + value + ")", x.drive(0, value), false);
            Check.due("refused, stays", x.peek(0), 7);
        }
        Check.due("drive(0, 0)", x.drive(0, 0), true);
        Check.due("peek(0)", x.peek(0), 0);
        for (int s : new int[] {1, 2, 3, 4, 24, -1, Integer.MAX_VALUE, Integer.MIN_VALUE}) {
            Check.due("drive(" + s + ", 1)", x.drive(s, 1), false);
        }
        Check.due("a constant is not driven", x.peek(1), 2);
        Check.due("a register is not driven", x.peek(2), 4);
    }

    private static void forcing() {
        NetlistBench x = new NetlistBench();
        x.signal(0, 3, 0, 0);
        x.signal(3, 0, 0, 0);
        x.signal(7, 1, 0, 0);
        x.drive(0, 2);
        Check.due("not of 2", x.peek(1), 5);
        Check.due("force(1, 3)", x.force(1, 3), true);
        Check.due("forced", x.peek(1), 3);
        Check.due("used where forced", x.peek(2), 5);
        Check.due("force(1, 8)", x.force(1, 8), false);
        Check.due("force(1, -2)", x.force(1, -2), false);
        Check.due("force(1, least)", x.force(1, Integer.MIN_VALUE), false);
        Check.due("force(1, greatest)", x.force(1, Integer.MAX_VALUE), false);
        Check.due("refused, stays forced", x.peek(1), 3);
        Check.due("force(1, 7)", x.force(1, 7), true);
        Check.due("forced anew", x.peek(1), 7);
        Check.due("force(1, 0)", x.force(1, 0), true);
        Check.due("forced to 0", x.peek(1), 0);
        Check.due("force(1, -1)", x.force(1, -1), true);
        Check.due("no longer forced", x.peek(1), 5);
        Check.due("force(1, -1) again", x.force(1, -1), true);
        for (int s : new int[] {3, 24, -1, Integer.MAX_VALUE, Integer.MIN_VALUE}) {
            Check.due("force(" + s + ", 0)", x.force(s, 0), false);
            Check.due("force(" + s + ", -1)", x.force(s, -1), false);
        }
        x.signal(3, 2, 0, 0);
        Check.due("a new signal is not forced", x.peek(3), 0);
    }

    private static void forcingEveryKind() {
        NetlistBench x = new NetlistBench();
        x.signal(0, 2, 0, 0);
        x.signal(1, 2, 2, 0);
        x.signal(2, 2, 1, 0);
        x.signal(0, 1, 0, 0);
        x.signal(3, 0, 0, 0);
        for (int kind = 4; kind <= 11; kind++) {
            x.signal(kind, 0, 1, 0);
        }
        x.signal(12, 3, 0, 1);
        x.signal(13, 0, 1, 0);
        x.signal(15, 0, 1, 0);
        x.signal(16, 0, 1, 1);
        x.signal(18, 0, 0, 0);
        for (int s = 0; s <= 16; s++) {
            int before = x.peek(s);
            int other = before ^ 1;
            Check.due("force(" + s + ", " + other + ")", x.force(s, other), true);
            Check.due("forced " + s, x.peek(s), other);
            x.force(s, -1);
            Check.due("free " + s, x.peek(s), before);
        }
    }

    private static void forcedInputs() {
        NetlistBench x = new NetlistBench();
        x.signal(0, 4, 0, 0);
        x.drive(0, 6);
        x.force(0, 9);
        Check.due("forced input", x.peek(0), 9);
        Check.due("drive under force", x.drive(0, 5), true);
        Check.due("still forced", x.peek(0), 9);
        x.force(0, -1);
        Check.due("what was driven meanwhile", x.peek(0), 5);
    }

    private static void peeking() {
        NetlistBench x = new NetlistBench();
        x.signal(0, 4, 0, 0);
        for (int s : new int[] {1, 24, 25, -1, -2, Integer.MAX_VALUE, Integer.MIN_VALUE}) {
            Check.due("peek(" + s + ")", x.peek(s), BAD);
        }
    }
}
