import java.lang.reflect.Field;
import java.lang.reflect.Modifier;
import java.util.ArrayList;
import java.util.Arrays;
import java.util.List;
import java.util.Set;
import java.util.TreeSet;

/**
 * Long runs of calls, made by a fixed sequence of numbers, against a second writing of the
 * document: objects for signals, values worked out backwards from the one that is asked for.
 */
public final class ModelTest {
    private static final int RUNS = 2000;
    private static final int CALLS = 512;

    /** One signal of the model. */
    private static final class Node {
        int kind;
        int width;
        int number;
        Node a;
        Node b;
        Node c;
        int forced = -1;
        int has;
        int noted;
        Node next;
        Node enable;
    }

    /** The document, written plainly. */
    private static final class Model {
        final List<Node> nodes = new ArrayList<>();
        int cost = 0;
        int bits = 0;
        int[] words = new int[4];
        int[] notedWords = new int[4];
        Node place;
        Node data;
        Node write;

        Node at(int s) {
            return s < 0 || s >= nodes.size() ? null : nodes.get(s);
        }

        boolean wide(int s, int width) {
            return at(s) != null && at(s).width == width;
        }

        int signal(int kind, int x, int y, int z) {
            if (nodes.size() == 24) {
                return -2;
            }
            if (kind < 0 || kind > 18) {
                return -1;
            }
            Node made = new Node();
            made.kind = kind;
            int price = kind <= 2 ? source(made, x, y) : gate(made, x, y, z);
            if (price < 0 || made.width < 1 || made.width > 6) {
                return -1;
            }
            int more = kind == 0 || kind == 2 ? made.width : 0;
            if (cost + price > 220 || bits + more > 60) {
                return -2;
            }
            cost += price;
            bits += more;
            nodes.add(made);
            return nodes.size() - 1;
        }

        int source(Node made, int x, int y) {
            if (x < 1 || x > 6 || made.kind != 0 && (y < 0 || y > Math.pow(2, x) - 1)) {
                return -1;
            }
            made.width = x;
            made.number = made.kind == 0 ? 0 : y;
            made.has = made.number;
            made.noted = made.number;
            return made.kind == 2 ? 3 * x : 0;
        }

        int gate(Node made, int x, int y, int z) {
            Node a = at(x);
            Node b = at(y);
            Node c = at(z);
            int kind = made.kind;
            if (a == null) {
                return -1;
            }
            made.a = a;
            made.width = a.width;
            if (kind == 3) {
                return 0;
            }
            if (kind == 16) {
                if (y < 0 || z < 1 || (long) y + z > a.width) {
                    return -1;
                }
                made.number = y;
                made.width = z;
                return 0;
            }
            if (kind == 17) {
                made.width = 3;
                return 12 * a.width;
            }
            if (kind == 18) {
                made.width = 4;
                return a.width == 2 ? 40 : -1;
            }
            if (b == null) {
                return -1;
            }
            made.b = b;
            if (kind == 12) {
                made.c = c;
                made.width = b.width;
                return c == null || a.width != 1 || b.width != c.width ? -1 : 3 * b.width;
            }
            if (kind == 13 || kind == 14) {
                return b.width == 2 ? 6 * a.width : -1;
            }
            if (kind == 15) {
                made.width = a.width + b.width;
                return 0;
            }
            if (a.width != b.width || kind == 9 && a.width > 3) {
                return -1;
            }
            int w = a.width;
            if (kind >= 10) {
                made.width = 1;
            }
            return new int[] {w, w, 3 * w, 9 * w, 9 * w, 10 * w * w, 8 * w, 4 * w}[kind - 4];
        }

        int value(Node n) {
            if (n.forced >= 0) {
                return n.forced;
            }
            if (n.kind == 0 || n.kind == 2) {
                return n.has;
            }
            if (n.kind == 1) {
                return n.number;
            }
            int size = 1 << n.width;
            int a = value(n.a);
            int b = n.b == null ? 0 : value(n.b);
            switch (n.kind) {
                case 3: return size - 1 - a;
                case 4: return a & b;
                case 5: return a | b;
                case 6: return a ^ b;
                case 7: return (a + b) % size;
                case 8: return Math.floorMod(a - b, size);
                case 9: return a * b % size;
                case 10: return a < b ? 1 : 0;
                case 11: return a == b ? 1 : 0;
                case 12: return a == 1 ? b : value(n.c);
                case 13: return a * (1 << b) % size;
                case 14: return a / (1 << b);
                case 15: return a * (1 << n.b.width) + b;
                case 16: return a / (1 << n.number) % size;
                case 17: return Integer.bitCount(a);
                default: return words[a];
            }
        }

        int clock(int n) {
            int changed = 0;
            for (int tick = 0; tick < Math.max(0, Math.min(40, n)); tick++) {
                int[] got = new int[nodes.size()];
                for (int i = 0; i < got.length; i++) {
                    Node r = nodes.get(i);
                    boolean takes = r.kind == 2 && r.next != null && (r.enable == null || value(r.enable) == 1);
                    got[i] = takes ? value(r.next) : r.has;
                }
                int[] after = words.clone();
                if (write != null && value(write) == 1) {
                    after[value(place)] = value(data);
                }
                for (int i = 0; i < got.length; i++) {
                    changed += Integer.bitCount(got[i] ^ nodes.get(i).has);
                    nodes.get(i).has = got[i];
                }
                for (int i = 0; i < 4; i++) {
                    changed += Integer.bitCount(after[i] ^ words[i]);
                }
                words = after;
            }
            return changed;
        }

        boolean connect(int r, int next, int enable) {
            if (at(r) == null || at(r).kind != 2 || !wide(next, at(r).width) || enable != -1 && !wide(enable, 1)) {
                return false;
            }
            at(r).next = at(next);
            at(r).enable = at(enable);
            return true;
        }

        boolean port(int p, int d, int e) {
            if (!wide(p, 2) || !wide(d, 4) || !wide(e, 1)) {
                return false;
            }
            place = at(p);
            data = at(d);
            write = at(e);
            return true;
        }

        boolean drive(int s, int value) {
            if (at(s) == null || at(s).kind != 0 || value < 0 || value >= 1 << at(s).width) {
                return false;
            }
            at(s).has = value;
            return true;
        }

        boolean force(int s, int value) {
            if (at(s) == null || value < -1 || value >= 1 << at(s).width) {
                return false;
            }
            at(s).forced = value;
            return true;
        }

        void reset() {
            nodes.stream().filter(n -> n.kind == 2).forEach(n -> n.has = n.number);
            words = new int[4];
        }

        void keep() {
            nodes.stream().filter(n -> n.kind == 2).forEach(n -> n.noted = n.has);
            notedWords = words.clone();
        }

        void back() {
            nodes.stream().filter(n -> n.kind == 2).forEach(n -> n.has = n.noted);
            words = notedWords.clone();
        }

        /** Puts what lies behind n into found, in the order of the numbers; true iff memory is there. */
        boolean behind(Node n, Set<Integer> found) {
            if (n == null) {
                return false;
            }
            if (n.kind == 0 || n.kind == 2) {
                found.add(nodes.indexOf(n));
            }
            boolean left = behind(n.a, found);
            boolean middle = behind(n.b, found);
            boolean right = behind(n.c, found);
            return n.kind == 18 || left || middle || right;
        }

        /** For how many ways s and t differ; t may be null, which stands for 0. -3 if open. */
        int differences(Node s, Node t) {
            Set<Integer> support = new TreeSet<>();
            boolean memory = behind(s, support) | behind(t, support);
            int sum = support.stream().mapToInt(i -> nodes.get(i).width).sum();
            if (memory || sum > 8) {
                return -3;
            }
            int[] before = nodes.stream().mapToInt(n -> n.has).toArray();
            int different = 0;
            for (int way = 0; way < 1 << sum; way++) {
                int rest = way;
                for (int i : support) {
                    nodes.get(i).has = rest % (1 << nodes.get(i).width);
                    rest /= 1 << nodes.get(i).width;
                }
                different += value(s) != (t == null ? 0 : value(t)) ? 1 : 0;
            }
            for (int i = 0; i < before.length; i++) {
                nodes.get(i).has = before[i];
            }
            return different;
        }

        int equivalent(int s, int t) {
            if (at(s) == null || at(t) == null || at(s).width != at(t).width) {
                return -1;
            }
            int different = differences(at(s), at(t));
            return different == -3 ? -3 : different == 0 ? 1 : 0;
        }

        int satisfied(int s) {
            return at(s) == null ? -1 : differences(at(s), null);
        }

        int depth(Node n) {
            if (n == null || n.kind <= 2) {
                return 0;
            }
            return 1 + Math.max(depth(n.a), Math.max(depth(n.b), depth(n.c)));
        }
    }

    private long seed;

    private int pick(int below) {
        seed = seed * 6364136223846793005L + 1442695040888963407L;
        return (int) ((seed >>> 33) % below);
    }

    private int someSignal(Model m) {
        return pick(40) == 0 ? pick(30) - 3 : pick(m.nodes.size() + 1);
    }

    /** A signal of the width if a few tries find one: else most calls would be refused. */
    private int signalOf(Model m, int width) {
        for (int i = 0; i < 12; i++) {
            int s = someSignal(m);
            if (m.wide(s, width)) {
                return s;
            }
        }
        return someSignal(m);
    }

    private int signalOfKind(Model m, int kind) {
        for (int i = 0; i < 12; i++) {
            int s = someSignal(m);
            if (m.at(s) != null && m.at(s).kind == kind) {
                return s;
            }
        }
        return someSignal(m);
    }

    private int someNumber(Model m, int s) {
        int width = m.at(s) == null ? 6 : m.at(s).width;
        return pick(12) == 0 ? pick(80) - 8 : pick(1 << width);
    }

    private void makeSignal(String run, NetlistBench x, Model m) {
        int kind = pick(60) == 0 ? pick(24) - 2 : pick(3) == 0 ? pick(3) : 3 + pick(16);
        int a = someSignal(m);
        int b = someSignal(m);
        int c = someSignal(m);
        if (kind <= 2) {
            a = pick(30) == 0 ? pick(12) - 2 : 1 + pick(pick(3) == 0 ? 6 : 4);
            b = pick(1 << Math.max(0, Math.min(a, 6))) + (pick(30) == 0 ? 8 : 0);
        } else if (kind == 12) {
            a = signalOf(m, 1);
            c = m.at(b) == null ? c : signalOf(m, m.at(b).width);
        } else if (kind == 13 || kind == 14) {
            b = signalOf(m, 2);
        } else if (kind == 16) {
            b = pick(6) - (pick(20) == 0 ? 2 : 0);
            c = pick(4);
        } else if (kind == 18) {
            a = signalOf(m, 2);
        } else if (kind <= 11 && m.at(a) != null) {
            b = signalOf(m, m.at(a).width);
        }
        String call = run + "signal(" + kind + ", " + a + ", " + b + ", " + c + ")";
        Check.due(call, x.signal(kind, a, b, c), m.signal(kind, a, b, c));
    }

    private void change(String run, NetlistBench x, Model m) {
        int s = someSignal(m);
        switch (pick(9)) {
            case 0: {
                int r = signalOfKind(m, 2);
                int next = m.at(r) == null ? s : signalOf(m, m.at(r).width);
                int enable = pick(2) == 0 ? -1 : signalOf(m, 1);
                String call = run + "connect(" + r + ", " + next + ", " + enable + ")";
                Check.due(call, x.connect(r, next, enable), m.connect(r, next, enable));
                return;
            }
            case 1: {
                int place = signalOf(m, 2);
                int data = signalOf(m, 4);
                int enable = signalOf(m, 1);
                String call = run + "port(" + place + ", " + data + ", " + enable + ")";
                Check.due(call, x.port(place, data, enable), m.port(place, data, enable));
                return;
            }
            case 2:
            case 3: {
                int input = signalOfKind(m, 0);
                int value = someNumber(m, input);
                Check.due(run + "drive(" + input + ", " + value + ")", x.drive(input, value), m.drive(input, value));
                return;
            }
            case 4: {
                int value = pick(4) != 0 ? -1 : someNumber(m, s);
                Check.due(run + "force(" + s + ", " + value + ")", x.force(s, value), m.force(s, value));
                return;
            }
            case 5:
            case 6: {
                int n = pick(10) == 0 ? pick(60) - 10 : pick(6);
                Check.due(run + "clock(" + n + ")", x.clock(n), m.clock(n));
                return;
            }
            case 7: {
                int k = pick(5) - 1;
                String before = fieldsOf(x);
                Check.due(run + "level(" + k + ")", x.level(k), k >= 0 && k <= 2);
                Check.due(run + "level(" + k + ") left every field as it was", fieldsOf(x).equals(before), true);
                return;
            }
            default:
                noteOrRestore(x, m);
        }
    }

    // A level that leaves every field as it was can show in no later answer, whatever the run. A class
    // that remembers its level would need another test here: how the state is held is free.
    private static String fieldsOf(NetlistBench x) {
        List<Object> values = new ArrayList<>();
        for (Field each : NetlistBench.class.getDeclaredFields()) {
            if (!Modifier.isStatic(each.getModifiers())) {
                each.setAccessible(true);
                try {
                    values.add(each.get(x));
                } catch (IllegalAccessException e) {
                    throw new IllegalStateException(e);
                }
            }
        }
        return Arrays.deepToString(values.toArray());
    }

    private void noteOrRestore(NetlistBench x, Model m) {
        int which = pick(5);
        if (which == 0) {
            x.reset();
            m.reset();
        } else if (which <= 2) {
            x.keep();
            m.keep();
        } else {
            x.back();
            m.back();
        }
    }

    private void ask(String run, NetlistBench x, Model m) {
        int s = someSignal(m);
        int t = m.at(s) == null ? someSignal(m) : signalOf(m, m.at(s).width);
        switch (pick(6)) {
            case 0:
                Check.due(run + "equivalent(" + s + ", " + t + ")", x.equivalent(s, t), m.equivalent(s, t));
                return;
            case 1:
                Check.due(run + "satisfied(" + s + ")", x.satisfied(s), m.satisfied(s));
                return;
            case 2:
                Check.due(run + "depth(" + s + ")", x.depth(s), m.at(s) == null ? -1 : m.depth(m.at(s)));
                return;
            case 3: {
                int place = pick(6) - 1;
                Check.due(run + "word(" + place + ")", x.word(place), place < 0 || place > 3 ? -1 : m.words[place]);
                return;
            }
            default:
                Check.due(run + "peek(" + s + ")", x.peek(s), m.at(s) == null ? -1 : m.value(m.at(s)));
        }
    }

    /** A memory that is written at each tick, and a word read; answers how many calls that took. */
    private int beginWithMemory(String run, NetlistBench x, Model m) {
        int[][] made = {{0, 2, 0, 0}, {0, 4, 0, 0}, {2, 1, 1, 0}, {18, 0, 0, 0}};
        for (int[] each : made) {
            String call = run + "signal(" + each[0] + ", " + each[1] + ", " + each[2] + ", " + each[3] + ")";
            Check.due(call, x.signal(each[0], each[1], each[2], each[3]),
                m.signal(each[0], each[1], each[2], each[3]));
        }
        Check.due(run + "port(0, 1, 2)", x.port(0, 1, 2), m.port(0, 1, 2));
        return made.length + 1;
    }

    private void run(int number) {
        seed = number;
        NetlistBench x = new NetlistBench();
        Model m = new Model();
        // Left to themselves most runs never write a word that is not 0.
        int begun = number % 2 == 0 ? beginWithMemory("run " + number + ", first calls: ", x, m) : 0;
        for (int calls = begun; calls < CALLS; calls++) {
            String run = "run " + number + ", call " + calls + ": ";
            int which = pick(10);
            if (calls < 12 || which < (calls < 120 ? 3 : 1)) {
                makeSignal(run, x, m);
            } else if (which < 6) {
                change(run, x, m);
            } else {
                ask(run, x, m);
            }
        }
    }

    public static void main(String[] args) {
        ModelTest test = new ModelTest();
        for (int number = 1; number <= RUNS; number++) {
            test.run(number);
        }
        Check.end();
    }
}
