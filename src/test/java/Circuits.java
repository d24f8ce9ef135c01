/** Circuits that several tests begin with. */
final class Circuits {
    /** Numbers that are far from every signal, place, width and value. */
    static final int[] FAR = {Integer.MIN_VALUE, Integer.MIN_VALUE + 1, -65, -24, 24, 25, 64, 1 << 16,
        Integer.MAX_VALUE - 1, Integer.MAX_VALUE};

    private Circuits() {
    }

    /** Inputs of these widths, numbered from 0 in this order. */
    static NetlistBench inputs(int... widths) {
        NetlistBench x = new NetlistBench();
        for (int width : widths) {
            x.signal(0, width, 0, 0);
        }
        return x;
    }

    /** Signals 0 to 5 are inputs of widths 1 to 6. */
    static NetlistBench sixInputs() {
        return inputs(1, 2, 3, 4, 5, 6);
    }

    /** 0 is a register of width 6 that counts the ticks. */
    static NetlistBench counter() {
        NetlistBench x = new NetlistBench();
        x.signal(2, 6, 0, 0);
        x.signal(1, 6, 1, 0);
        x.signal(7, 0, 1, 0);
        x.connect(0, 2, -1);
        return x;
    }

    /** A signal of each kind: signal number i is of kind i, each of a width that widthOfKind tells. */
    static NetlistBench everyKind() {
        NetlistBench x = new NetlistBench();
        x.signal(0, 2, 0, 0);
        x.signal(1, 2, 2, 0);
        x.signal(2, 2, 1, 0);
        x.signal(3, 0, 0, 0);
        for (int kind = 4; kind <= 11; kind++) {
            x.signal(kind, 0, 1, 0);
        }
        x.signal(12, 10, 0, 1);
        x.signal(13, 0, 1, 0);
        x.signal(14, 0, 1, 0);
        x.signal(15, 0, 1, 0);
        x.signal(16, 0, 1, 1);
        x.signal(17, 10, 0, 0);
        x.signal(18, 0, 0, 0);
        return x;
    }

    /** The widths in everyKind. */
    static int widthOfKind(int kind) {
        switch (kind) {
            case 10: case 11: case 16: return 1;
            case 15: case 18: return 4;
            case 17: return 3;
            default: return 2;
        }
    }

    /** Spends exactly this much of the cost limit; signals 0 to 5 are those of sixInputs. */
    static void spend(NetlistBench x, int cost) {
        int rest = cost;
        while (rest >= 90) {
            made(x.signal(9, 2, 2, 0));
            rest -= 90;
        }
        while (rest >= 9) {
            int width = Math.min(6, rest / 9);
            made(x.signal(7, width - 1, width - 1, 0));
            rest -= 9 * width;
        }
        while (rest >= 1) {
            int width = Math.min(6, rest);
            made(x.signal(4, width - 1, width - 1, 0));
            rest -= width;
        }
    }

    private static void made(int number) {
        Check.due("a signal that spends of the cost limit is made", number >= 0, true);
    }
}
