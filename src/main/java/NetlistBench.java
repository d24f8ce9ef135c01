/** A description of a small synchronous circuit, and the circuit at work. */
public final class NetlistBench {
    public static final int BAD = -1;
    public static final int FULL = -2;
    public static final int OPEN = -3;

    private static final int NONE = -1;
    private static final int MAX_SIGNALS = 24;
    private static final int MAX_WIDTH = 6;
    private static final int MAX_COST = 220;
    private static final int MAX_STATE_WIDTH = 60;
    private static final int MAX_SUPPORT_WIDTH = 8;
    private static final int MAX_PRODUCT_WIDTH = 3;
    private static final int MAX_TICKS = 40;
    private static final int MAX_LEVEL = 2;
    private static final int WORDS = 4;
    private static final int WORD_WIDTH = 4;
    private static final int PLACE_WIDTH = 2;
    private static final int SHIFT_WIDTH = 2;
    private static final int ONES_WIDTH = 3;

    private static final int INPUT = 0;
    private static final int CONSTANT = 1;
    private static final int REGISTER = 2;
    private static final int NOT = 3;
    private static final int AND = 4;
    private static final int OR = 5;
    private static final int XOR = 6;
    private static final int ADD = 7;
    private static final int SUBTRACT = 8;
    private static final int MULTIPLY = 9;
    private static final int LESS = 10;
    private static final int EQUAL = 11;
    private static final int CHOOSE = 12;
    private static final int SHIFT_UP = 13;
    private static final int SHIFT_DOWN = 14;
    private static final int JOIN = 15;
    private static final int SLICE = 16;
    private static final int ONES = 17;
    private static final int READ = 18;

    private int count = 0;
    private int costSum = 0;
    private int stateWidthSum = 0;

    private final int[] kinds = new int[MAX_SIGNALS];
    private final int[] widths = new int[MAX_SIGNALS];
    // An operand that a kind does not have stays 0 whatever was given for it, so that it is a safe index.
    private final int[] operandX = new int[MAX_SIGNALS];
    private final int[] operandY = new int[MAX_SIGNALS];
    private final int[] operandZ = new int[MAX_SIGNALS];
    // The constant, a register's first value, or the lowest bit of a slice.
    private final int[] numbers = new int[MAX_SIGNALS];
    // Bit i is set iff one comes to signal i over operands: operands never change.
    private final int[] reached = new int[MAX_SIGNALS];
    private final int[] depths = new int[MAX_SIGNALS];

    private final int[] nextOf = new int[MAX_SIGNALS];
    private final int[] enableOf = new int[MAX_SIGNALS];
    private int portPlace = NONE;
    private int portData = NONE;
    private int portEnable = NONE;

    private final int[] forced = new int[MAX_SIGNALS];
    // What inputs and registers have underneath, whether forced or not.
    private final int[] held = new int[MAX_SIGNALS];
    private final int[] noted = new int[MAX_SIGNALS];
    private final int[] memory = new int[WORDS];
    private final int[] notedMemory = new int[WORDS];

    // Filled anew by settle before each use; nothing in it outlives a call.
    private final int[] values = new int[MAX_SIGNALS];
    // Stands in for held while all ways to fill a support are tried.
    private final int[] trial = new int[MAX_SIGNALS];

    public NetlistBench() {
    }

    public int signal(int kind, int x, int y, int z) {
        if (count >= MAX_SIGNALS) {
            return FULL;
        }
        if (kind < INPUT || kind > READ) {
            return BAD;
        }
        if (!operandsFit(kind, x, y, z)) {
            return BAD;
        }
        int width = resultWidth(kind, x, y, z);
        if (!isWidth(width)) {
            return BAD;
        }
        int cost = costOf(kind, x, width);
        int stateWidth = kind == INPUT || kind == REGISTER ? width : 0;
        if (costSum + cost > MAX_COST || stateWidthSum + stateWidth > MAX_STATE_WIDTH) {
            return FULL;
        }
        costSum += cost;
        stateWidthSum += stateWidth;
        int made = count;
        kinds[made] = kind;
        widths[made] = width;
        numbers[made] = kind == CONSTANT || kind == REGISTER || kind == SLICE ? y : 0;
        giveOperands(made, x, y, z);
        giveState(made);
        count = made + 1;
        return made;
    }

    public boolean connect(int r, int next, int enable) {
        if (!isOfKind(r, REGISTER) || !isOfWidth(next, widths[r])) {
            return false;
        }
        if (enable != NONE && !isOfWidth(enable, 1)) {
            return false;
        }
        nextOf[r] = next;
        enableOf[r] = enable;
        return true;
    }

    public boolean port(int place, int data, int enable) {
        if (!isOfWidth(place, PLACE_WIDTH) || !isOfWidth(data, WORD_WIDTH) || !isOfWidth(enable, 1)) {
            return false;
        }
        portPlace = place;
        portData = data;
        portEnable = enable;
        return true;
    }

    public boolean drive(int s, int value) {
        if (!isOfKind(s, INPUT) || !fitsWidth(value, widths[s])) {
            return false;
        }
        held[s] = value;
        return true;
    }

    public boolean force(int s, int value) {
        if (!isSignal(s)) {
            return false;
        }
        if (value != NONE && !fitsWidth(value, widths[s])) {
            return false;
        }
        forced[s] = value;
        return true;
    }

    public int peek(int s) {
        if (!isSignal(s)) {
            return BAD;
        }
        settle(held);
        return values[s];
    }

    public int clock(int n) {
        int ticks = n < 0 ? 0 : n > MAX_TICKS ? MAX_TICKS : n;
        int changed = 0;
        for (int i = 0; i < ticks; i++) {
            settle(held);
            changed += tickRegisters();
            changed += tickMemory();
        }
        return changed;
    }

    public int word(int place) {
        return place < 0 || place >= WORDS ? BAD : memory[place];
    }

    public void reset() {
        for (int i = 0; i < count; i++) {
            if (kinds[i] == REGISTER) {
                held[i] = numbers[i];
            }
        }
        for (int i = 0; i < WORDS; i++) {
            memory[i] = 0;
        }
    }

    public void keep() {
        for (int i = 0; i < count; i++) {
            if (kinds[i] == REGISTER) {
                noted[i] = held[i];
            }
        }
        for (int i = 0; i < WORDS; i++) {
            notedMemory[i] = memory[i];
        }
    }

    public void back() {
        for (int i = 0; i < count; i++) {
            if (kinds[i] == REGISTER) {
                held[i] = noted[i];
            }
        }
        for (int i = 0; i < WORDS; i++) {
            memory[i] = notedMemory[i];
        }
    }

    // The level shows in no answer, so one way of working out the values serves all
    // levels, and there is nothing to remember.
    public boolean level(int k) {
        return k >= 0 && k <= MAX_LEVEL;
    }

    public int equivalent(int s, int t) {
        if (!isSignal(s) || !isSignal(t) || widths[s] != widths[t]) {
            return BAD;
        }
        int cone = reached[s] | reached[t];
        if (isOpen(cone)) {
            return OPEN;
        }
        int ways = 1 << supportWidth(cone);
        for (int way = 0; way < ways; way++) {
            fillTrial(cone, way);
            settle(trial);
            if (values[s] != values[t]) {
                return 0;
            }
        }
        return 1;
    }

    public int satisfied(int s) {
        if (!isSignal(s)) {
            return BAD;
        }
        int cone = reached[s];
        if (isOpen(cone)) {
            return OPEN;
        }
        int ways = 1 << supportWidth(cone);
        int found = 0;
        for (int way = 0; way < ways; way++) {
            fillTrial(cone, way);
            settle(trial);
            if (values[s] != 0) {
                found++;
            }
        }
        return found;
    }

    public int depth(int s) {
        return isSignal(s) ? depths[s] : BAD;
    }

    private boolean isSignal(int s) {
        return s >= 0 && s < count;
    }

    private boolean isOfKind(int s, int kind) {
        return isSignal(s) && kinds[s] == kind;
    }

    private boolean isOfWidth(int s, int width) {
        return isSignal(s) && widths[s] == width;
    }

    private boolean areOfSameWidth(int s, int t) {
        return isSignal(s) && isSignal(t) && widths[s] == widths[t];
    }

    private static boolean isWidth(int width) {
        return width >= 1 && width <= MAX_WIDTH;
    }

    private static boolean fitsWidth(int value, int width) {
        return value >= 0 && value < 1 << width;
    }

    private static int countOnes(int value) {
        int ones = 0;
        for (int i = 0; i < MAX_WIDTH; i++) {
            ones += value >> i & 1;
        }
        return ones;
    }

    private boolean operandsFit(int kind, int x, int y, int z) {
        switch (kind) {
            case INPUT:
                return isWidth(x);
            case CONSTANT:
            case REGISTER:
                return isWidth(x) && fitsWidth(y, x);
            case NOT:
            case ONES:
                return isSignal(x);
            case MULTIPLY:
                return areOfSameWidth(x, y) && widths[x] <= MAX_PRODUCT_WIDTH;
            case CHOOSE:
                return isOfWidth(x, 1) && areOfSameWidth(y, z);
            case SHIFT_UP:
            case SHIFT_DOWN:
                return isSignal(x) && isOfWidth(y, SHIFT_WIDTH);
            case JOIN:
                return isSignal(x) && isSignal(y);
            case SLICE:
                // Subtracting keeps clear of the wrap-around that y + z could have.
                return isSignal(x) && y >= 0 && z >= 1 && z <= widths[x] - y;
            case READ:
                return isOfWidth(x, PLACE_WIDTH);
            default:
                return areOfSameWidth(x, y);
        }
    }

    // Called only with operands that fit.
    private int resultWidth(int kind, int x, int y, int z) {
        switch (kind) {
            case INPUT:
            case CONSTANT:
            case REGISTER:
                return x;
            case LESS:
            case EQUAL:
                return 1;
            case CHOOSE:
                return widths[y];
            case JOIN:
                return widths[x] + widths[y];
            case SLICE:
                return z;
            case ONES:
                return ONES_WIDTH;
            case READ:
                return WORD_WIDTH;
            default:
                return widths[x];
        }
    }

    // Called only with operands that fit.
    private int costOf(int kind, int x, int width) {
        switch (kind) {
            case AND:
            case OR:
                return width;
            case REGISTER:
            case XOR:
            case CHOOSE:
                return 3 * width;
            case ADD:
            case SUBTRACT:
                return 9 * width;
            case MULTIPLY:
                return 10 * width * width;
            case LESS:
                return 8 * widths[x];
            case EQUAL:
                return 4 * widths[x];
            case SHIFT_UP:
            case SHIFT_DOWN:
                return 6 * width;
            case ONES:
                return 12 * widths[x];
            case READ:
                return 40;
            default:
                return 0;
        }
    }

    private static int operandCount(int kind) {
        switch (kind) {
            case INPUT:
            case CONSTANT:
            case REGISTER:
                return 0;
            case NOT:
            case SLICE:
            case ONES:
            case READ:
                return 1;
            case CHOOSE:
                return 3;
            default:
                return 2;
        }
    }

    private void giveOperands(int made, int x, int y, int z) {
        int operands = operandCount(kinds[made]);
        reached[made] = 1 << made;
        if (operands > 0) {
            operandX[made] = x;
            standBehind(made, x);
        }
        if (operands > 1) {
            operandY[made] = y;
            standBehind(made, y);
        }
        if (operands > 2) {
            operandZ[made] = z;
            standBehind(made, z);
        }
    }

    private void standBehind(int made, int operand) {
        reached[made] |= reached[operand];
        if (depths[made] < depths[operand] + 1) {
            depths[made] = depths[operand] + 1;
        }
    }

    private void giveState(int made) {
        int first = kinds[made] == REGISTER ? numbers[made] : 0;
        held[made] = first;
        noted[made] = first;
        forced[made] = NONE;
        nextOf[made] = NONE;
        enableOf[made] = NONE;
    }

    // Operands are earlier signals, so one pass upwards meets each after its operands.
    private void settle(int[] base) {
        for (int i = 0; i < count; i++) {
            if (forced[i] != NONE) {
                values[i] = forced[i];
            } else if (kinds[i] == INPUT || kinds[i] == REGISTER) {
                values[i] = base[i];
            } else {
                values[i] = workOut(i);
            }
        }
    }

    private int workOut(int i) {
        int x = values[operandX[i]];
        int y = values[operandY[i]];
        int z = values[operandZ[i]];
        int mask = (1 << widths[i]) - 1;
        switch (kinds[i]) {
            case CONSTANT:
                return numbers[i];
            case NOT:
                return ~x & mask;
            case AND:
                return x & y;
            case OR:
                return x | y;
            case XOR:
                return x ^ y;
            case ADD:
                return x + y & mask;
            case SUBTRACT:
                return x - y & mask;
            case MULTIPLY:
                return x * y & mask;
            case LESS:
                return x < y ? 1 : 0;
            case EQUAL:
                return x == y ? 1 : 0;
            case CHOOSE:
                return x == 1 ? y : z;
            case SHIFT_UP:
                return x << y & mask;
            case SHIFT_DOWN:
                return x >> y;
            case JOIN:
                return x << widths[operandY[i]] | y;
            case SLICE:
                return x >> numbers[i] & mask;
            case ONES:
                return countOnes(x);
            case READ:
                return memory[x & WORDS - 1];
            default:
                return 0;
        }
    }

    // Reads values alone, so that every register sees what was before the tick.
    private int tickRegisters() {
        int changed = 0;
        for (int i = 0; i < count; i++) {
            if (kinds[i] == REGISTER && nextOf[i] != NONE && isEnabled(i)) {
                int got = values[nextOf[i]];
                changed += countOnes(held[i] ^ got);
                held[i] = got;
            }
        }
        return changed;
    }

    private boolean isEnabled(int register) {
        return enableOf[register] == NONE || values[enableOf[register]] == 1;
    }

    private int tickMemory() {
        if (portPlace == NONE || values[portEnable] != 1) {
            return 0;
        }
        int place = values[portPlace] & WORDS - 1;
        int got = values[portData];
        int changed = countOnes(memory[place] ^ got);
        memory[place] = got;
        return changed;
    }

    private boolean isInSupport(int cone, int i) {
        return (cone >> i & 1) == 1 && (kinds[i] == INPUT || kinds[i] == REGISTER);
    }

    private int supportWidth(int cone) {
        int sum = 0;
        for (int i = 0; i < count; i++) {
            if (isInSupport(cone, i)) {
                sum += widths[i];
            }
        }
        return sum;
    }

    private boolean isOpen(int cone) {
        for (int i = 0; i < count; i++) {
            if ((cone >> i & 1) == 1 && kinds[i] == READ) {
                return true;
            }
        }
        return supportWidth(cone) > MAX_SUPPORT_WIDTH;
    }

    // Cuts the bits of way into one value for each signal of the support; what the
    // others have cannot be seen from the cone.
    private void fillTrial(int cone, int way) {
        int rest = way;
        for (int i = 0; i < count; i++) {
            if (isInSupport(cone, i)) {
                trial[i] = rest & (1 << widths[i]) - 1;
                rest >>= widths[i];
            }
        }
    }
}
