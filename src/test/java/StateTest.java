/** Promises 10, 11, 12 and 13. */
public final class StateTest {
    public static void main(String[] args) {
        resetting();
        backBeforeKeep();
        keepingAndBack();
        registersMadeAfterKeep();
        forcedRegisters();
        resetLeavesTheNote();
        everyWord();
        levels();
        levelShowsInNoAnswer();
        Check.end();
    }

    /** 0: place counter; 3: data register, turned over at each tick; 5: enable; 6: the word at place 0. */
    private static NetlistBench machine() {
        NetlistBench x = new NetlistBench();
        x.signal(2, 2, 1, 0);
        x.signal(1, 2, 1, 0);
        x.signal(7, 0, 1, 0);
        x.signal(2, 4, 6, 0);
        x.signal(3, 3, 0, 0);
        x.signal(0, 1, 0, 0);
        x.signal(18, 0, 0, 0);
        x.connect(0, 2, -1);
        x.connect(3, 4, -1);
        x.port(0, 3, 5);
        x.drive(5, 1);
        return x;
    }

    private static void look(String at, NetlistBench x, int place, int data, int... words) {
        Check.due(at + ": place register", x.peek(0), place);
        Check.due(at + ": data register", x.peek(3), data);
        for (int i = 0; i < 4; i++) {
            Check.due(at + ": word(" + i + ")", x.word(i), words[i]);
        }
        Check.due(at + ": the word read", x.peek(6), words[place]);
    }

    private static void resetting() {
        NetlistBench x = machine();
        look("new", x, 1, 6, 0, 0, 0, 0);
        x.clock(3);
        look("three ticks", x, 0, 9, 0, 6, 9, 6);
        x.force(2, 3);
        x.reset();
        look("reset", x, 1, 6, 0, 0, 0, 0);
        Check.due("an input stays", x.peek(5), 1);
        Check.due("what is forced stays", x.peek(2), 3);
        x.force(2, -1);
        x.clock(3);
        look("next signals and port stay", x, 0, 9, 0, 6, 9, 6);
    }

    private static void backBeforeKeep() {
        NetlistBench x = machine();
        x.clock(4);
        look("four ticks", x, 1, 6, 9, 6, 9, 6);
        x.clock(1);
        x.back();
        look("back to the first values", x, 1, 6, 0, 0, 0, 0);
    }

    private static void keepingAndBack() {
        NetlistBench x = machine();
        x.clock(1);
        x.keep();
        look("kept", x, 2, 9, 0, 6, 0, 0);
        x.clock(2);
        look("later", x, 0, 9, 0, 6, 9, 6);
        x.drive(5, 0);
        x.back();
        look("back", x, 2, 9, 0, 6, 0, 0);
        Check.due("an input is not noted", x.peek(5), 0);
        x.clock(3);
        x.back();
        look("back again", x, 2, 9, 0, 6, 0, 0);
        x.drive(5, 1);
        x.clock(2);
        x.keep();
        x.clock(3);
        x.back();
        look("the later note", x, 0, 9, 0, 6, 9, 6);
    }

    private static void registersMadeAfterKeep() {
        NetlistBench x = machine();
        x.clock(1);
        x.keep();
        x.signal(2, 3, 5, 0);
        x.signal(3, 7, 0, 0);
        x.connect(7, 8, -1);
        x.clock(1);
        Check.due("turned over", x.peek(7), 2);
        x.back();
        Check.due("a register made after keep", x.peek(7), 5);
        look("the others", x, 2, 9, 0, 6, 0, 0);
    }

    private static void forcedRegisters() {
        NetlistBench x = machine();
        x.clock(1);
        x.force(3, 15);
        x.keep();
        x.force(3, -1);
        x.reset();
        x.back();
        look("noted is what it has underneath", x, 2, 9, 0, 6, 0, 0);
        x.force(3, 0);
        x.reset();
        Check.due("forced after reset", x.peek(3), 0);
        x.force(3, -1);
        Check.due("reset underneath", x.peek(3), 6);
        x.force(3, 0);
        x.back();
        Check.due("forced after back", x.peek(3), 0);
        x.force(3, -1);
        Check.due("back underneath", x.peek(3), 9);
        x.force(5, 0);
        x.back();
        Check.due("what is forced stays after back", x.peek(5), 0);
    }

    private static void resetLeavesTheNote() {
        NetlistBench x = machine();
        x.clock(1);
        x.keep();
        x.reset();
        look("reset", x, 1, 6, 0, 0, 0, 0);
        x.back();
        look("back after reset", x, 2, 9, 0, 6, 0, 0);
    }

    private static void everyWord() {
        NetlistBench x = machine();
        x.clock(5);
        look("five ticks", x, 2, 9, 9, 6, 9, 6);
        x.keep();
        x.reset();
        look("every word reset", x, 1, 6, 0, 0, 0, 0);
        x.back();
        look("every word back", x, 2, 9, 9, 6, 9, 6);
    }

    private static void levels() {
        NetlistBench x = new NetlistBench();
        for (int k : new int[] {0, 1, 2, 2, 0}) {
            Check.due("level(" + k + ")", x.level(k), true);
        }
        for (int k : new int[] {-1, 3, 4, Integer.MAX_VALUE, Integer.MIN_VALUE}) {
            Check.due("level(" + k + ")", x.level(k), false);
        }
    }

    private static void levelShowsInNoAnswer() {
        for (int k = -1; k <= 3; k++) {
            NetlistBench x = machine();
            x.level(k);
            Check.due("level " + k + ": clock(1)", x.clock(1), 2 + 4 + 2);
            x.force(2, 1);
            x.level(2 - k);
            look("level " + k, x, 2, 9, 0, 6, 0, 0);
            x.clock(1);
            x.level(k);
            look("level " + k, x, 1, 6, 0, 6, 9, 0);
            x.force(2, -1);
            Check.due("level " + k + ": peek(2)", x.peek(2), 2);
            Check.due("level " + k + ": satisfied(2)", x.satisfied(2), 3);
        }
    }
}
