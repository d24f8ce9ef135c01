/** The examples of README.md, call for call. */
public final class ExampleTest {
    public static void main(String[] args) {
        counter();
        memory();
        allWays();
        Check.end();
    }

    private static void counter() {
        NetlistBench bench = new NetlistBench();
        int step = bench.signal(0, 4, 0, 0);
        int total = bench.signal(2, 4, 3, 0);
        int sum = bench.signal(7, step, total, 0);
        Check.due("connect(total, sum, -1)", bench.connect(total, sum, -1), true);
        Check.due("drive(step, 5)", bench.drive(step, 5), true);
        Check.due("clock(1)", bench.clock(1), 3);
        Check.due("peek(total)", bench.peek(total), 8);
        Check.due("force(sum, 0)", bench.force(sum, 0), true);
        Check.due("clock(1)", bench.clock(1), 1);
        Check.due("force(sum, -1)", bench.force(sum, -1), true);
        Check.due("peek(sum)", bench.peek(sum), 5);
        bench.reset();
        Check.due("peek(total)", bench.peek(total), 3);
    }

    private static void memory() {
        NetlistBench bench = new NetlistBench();
        int place = bench.signal(0, 2, 0, 0);
        int data = bench.signal(0, 4, 0, 0);
        int write = bench.signal(1, 1, 1, 0);
        int read = bench.signal(18, place, 0, 0);
        Check.due("port(place, data, write)", bench.port(place, data, write), true);
        Check.due("drive(place, 2)", bench.drive(place, 2), true);
        Check.due("drive(data, 9)", bench.drive(data, 9), true);
        Check.due("clock(1)", bench.clock(1), 2);
        Check.due("word(2)", bench.word(2), 9);
        bench.keep();
        Check.due("drive(data, 4)", bench.drive(data, 4), true);
        Check.due("clock(1)", bench.clock(1), 3);
        Check.due("peek(read)", bench.peek(read), 4);
        bench.back();
        Check.due("peek(read)", bench.peek(read), 9);
        Check.due("peek(data)", bench.peek(data), 4);
        Check.due("satisfied(read)", bench.satisfied(read), NetlistBench.OPEN);
    }

    private static void allWays() {
        NetlistBench bench = new NetlistBench();
        int a = bench.signal(0, 4, 0, 0);
        int b = bench.signal(0, 4, 0, 0);
        int sum = bench.signal(7, a, b, 0);
        int back = bench.signal(8, sum, b, 0);
        int less = bench.signal(10, a, b, 0);
        Check.due("equivalent(back, a)", bench.equivalent(back, a), 1);
        Check.due("equivalent(sum, a)", bench.equivalent(sum, a), 0);
        Check.due("equivalent(less, a)", bench.equivalent(less, a), NetlistBench.BAD);
        Check.due("satisfied(less)", bench.satisfied(less), 120);
        Check.due("depth(back)", bench.depth(back), 2);
    }
}
