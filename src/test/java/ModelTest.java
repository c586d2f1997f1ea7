import java.util.ArrayDeque;
import java.util.ArrayList;
import java.util.Deque;
import java.util.HashSet;
import java.util.List;
import java.util.Map;
import java.util.Set;
import java.util.TreeMap;

/**
 * Long runs of calls, the same ones each time, whose every answer is compared with a second reading
 * of the document: instructions as objects, heads as sets of addresses.
 */
public final class ModelTest {
    private static final int OBJECTS = 6000;
    private static final int CALLS = 512;

    private record Instruction(int begin, int kind, int r, int s, int relative) {
        int next() {
            return begin + bytes().size();
        }

        int target() {
            return next() + relative;
        }

        List<Integer> bytes() {
            int t = relative < 0 ? relative + 256 : relative;
            return switch (kind) {
                case 0, 7 -> List.of(kind);
                case 3 -> List.of(kind, r + 4 * s);
                case 4, 6 -> List.of(kind, t);
                case 5 -> List.of(kind, r, t);
                default -> List.of(kind, r);
            };
        }
    }

    private static final class Model {
        final Map<Integer, Instruction> code = new TreeMap<>();
        final List<Integer> bytes = new ArrayList<>();
        final int[] registers = new int[4];
        final Map<Integer, Integer> counts = new TreeMap<>();
        int ending = 0;
        int executed = 0;

        static boolean out(int value, int least, int greatest) {
            return value < least || value > greatest;
        }

        int append(int kind, int r, int s, int relative) {
            if (out(r, 0, 3) || out(s, 0, 3) || out(relative, -128, 127)) return -1;
            if (!counts.isEmpty()) return -3;
            Instruction made = new Instruction(bytes.size(), kind, r, s, relative);
            if (made.next() > 64) return -2;
            code.put(made.begin(), made);
            bytes.addAll(made.bytes());
            return made.begin();
        }

        int clear() {
            if (!counts.isEmpty()) return -3;
            int removed = bytes.size();
            code.clear();
            bytes.clear();
            return removed;
        }

        Set<Integer> head(int a) {
            Set<Integer> head = new HashSet<>();
            for (Instruction i : code.values()) {
                if (i.begin() < a || head.size() >= 3) continue;
                for (int b = i.begin(); b < i.next(); b++) head.add(b);
            }
            return head;
        }

        int hook(int a) {
            if (out(a, 0, 63)) return -1;
            if (counts.containsKey(a)) return -3;
            if (counts.size() == 4) return -2;
            if (!code.containsKey(a) || bytes.size() - a < 3) return -4;
            Set<Integer> head = head(a);
            for (int other : counts.keySet()) {
                Set<Integer> common = head(other);
                common.retainAll(head);
                if (!common.isEmpty()) return -4;
            }
            for (Instruction i : code.values()) {
                boolean leads = i.kind() == 4 || i.kind() == 5 || i.kind() == 6;
                if (leads && i.target() != a && head.contains(i.target())) return -4;
            }
            counts.put(a, 0);
            return head.size();
        }

        int count(int a) {
            if (out(a, 0, 63)) return -1;
            return counts.getOrDefault(a, -3);
        }

        int unhook(int a) {
            int answer = count(a);
            counts.remove(a);
            return answer;
        }

        int run(int a) {
            if (out(a, 0, 63)) return -1;
            Deque<Integer> stack = new ArrayDeque<>();
            int at = a;
            executed = 0;
            while (true) {
                if (executed == 200) return ending = 4;
                Instruction i = code.get(at);
                if (i == null) return ending = 2;
                executed++;
                counts.computeIfPresent(at, (key, count) -> count + 1);
                at = i.next();
                switch (i.kind()) {
                    case 0: return ending = 1;
                    case 1: registers[i.r()] += 1; break;
                    case 2: registers[i.r()] -= 1; break;
                    case 3: registers[i.r()] = registers[i.s()]; break;
                    case 4: at = i.target(); break;
                    case 5: if (registers[i.r()] != 0) at = i.target(); break;
                    case 6:
                        if (stack.size() == 8) return ending = 3;
                        stack.push(at);
                        at = i.target();
                        break;
                    case 7:
                        if (stack.isEmpty()) return ending = 1;
                        at = stack.pop();
                        break;
                    default: registers[i.r()] = at;
                }
            }
        }
    }

    private long state = 88172645463325252L;
    private int wrong = 0;
    private final int[] endings = new int[5];
    private final Map<Integer, Integer> hookAnswers = new TreeMap<>();
    private DetourHooker x;
    private Model m;
    private int object;
    private final StringBuilder told = new StringBuilder();

    /** A fixed row of numbers, so that each run of this test is the same. */
    private int below(int bound) {
        state ^= state << 13;
        state ^= state >>> 7;
        state ^= state << 17;
        return (int) Math.floorMod(state >>> 11, (long) bound);
    }

    private int someRegister() {
        return below(40) == 0 ? below(2) * 5 - 1 : below(4);
    }

    private int someAddress() {
        int kind = below(30);
        if (kind == 0) return below(2) * 65 - 1;
        if (kind < 4 || m.code.isEmpty()) return below(64);
        List<Integer> begins = new ArrayList<>(m.code.keySet());
        return begins.get(below(begins.size()));
    }

    private int someRelative(int size) {
        int kind = below(40);
        if (kind == 0) return below(2) * 257 - 129;
        if (kind == 1) return below(2) * 255 - 128;
        if (kind < 6) return below(256) - 128;
        return someAddress() - m.bytes.size() - size;
    }

    private void due(String call, int got, int want) {
        told.append(' ').append(call).append('=').append(want);
        if (got != want && wrong++ < 20) {
            System.out.println("object " + object + ":" + told + " but answered " + got);
        }
    }

    private void appendOne() {
        int r = someRegister();
        int s = someRegister();
        int t = someRelative(2);
        int u = someRelative(3);
        switch (below(11)) {
            case 0: due("halt()", x.halt(), m.append(0, 0, 0, 0)); break;
            case 1: due("inc(" + r + ")", x.inc(r), m.append(1, r, 0, 0)); break;
            case 2: due("dec(" + r + ")", x.dec(r), m.append(2, r, 0, 0)); break;
            case 3: due("move(" + r + "," + s + ")", x.move(r, s), m.append(3, r, s, 0)); break;
            case 4: due("jump(" + t + ")", x.jump(t), m.append(4, 0, 0, t)); break;
            case 5: due("branch(" + r + "," + u + ")", x.branch(r, u), m.append(5, r, 0, u)); break;
            case 6: due("call(" + t + ")", x.call(t), m.append(6, 0, 0, t)); break;
            case 7: due("giveBack()", x.giveBack(), m.append(7, 0, 0, 0)); break;
            case 8: due("where(" + r + ")", x.where(r), m.append(8, r, 0, 0)); break;
            // Code that leads nowhere leaves more addresses that can be hooked.
            default: due("inc(" + r + ")", x.inc(r), m.append(1, r, 0, 0));
        }
    }

    private void hookOne(int a) {
        int want = m.hook(a);
        hookAnswers.merge(want, 1, Integer::sum);
        due("hook(" + a + ")", x.hook(a), want);
    }

    private void runOnce(int a) {
        int want = m.run(a);
        if (want > 0) endings[want]++;
        due("run(" + a + ")", x.run(a), want);
        due("executed()", x.executed(), m.executed);
        due("ending()", x.ending(), m.ending);
        for (int r = 0; r < 4; r++) due("register(" + r + ")", x.register(r), m.registers[r]);
    }

    private int readAll() {
        for (int i = -1; i <= m.bytes.size(); i++) {
            due("peek(" + i + ")", x.peek(i), i < 0 || i >= m.bytes.size() ? -1 : m.bytes.get(i));
        }
        for (int a = -1; a <= 64; a++) due("calls(" + a + ")", x.calls(a), m.count(a));
        due("length()", x.length(), m.bytes.size());
        due("hooks()", x.hooks(), m.counts.size());
        return m.bytes.size() + 70;
    }

    /** Answers how many calls it made. */
    private int someCalls(int style) {
        int a = someAddress();
        int r = someRegister();
        int kind = below(100);
        if (kind < style) {
            appendOne();
            return 1;
        }
        if (kind < style + 12) {
            hookOne(a);
            return 1;
        }
        if (kind < style + 18) {
            int hooked = m.counts.isEmpty() || below(3) == 0 ? a : m.counts.keySet().iterator().next();
            due("unhook(" + hooked + ")", x.unhook(hooked), m.unhook(hooked));
            return 1;
        }
        if (kind < style + 30) {
            runOnce(a);
            return 7;
        }
        if (kind < style + 36) {
            int v = below(8) == 0 ? (int) state : below(5) - 1;
            boolean good = !Model.out(r, 0, 3);
            if (good) m.registers[r] = v;
            due("setRegister(" + r + "," + v + ")", x.setRegister(r, v), good ? 0 : -1);
            return 1;
        }
        if (kind == style + 36 && below(3) == 0) {
            due("clear()", x.clear(), m.clear());
            return 1;
        }
        due("calls(" + a + ")", x.calls(a), m.count(a));
        return 1;
    }

    private void oneObject() {
        x = new DetourHooker();
        m = new Model();
        told.setLength(0);
        int style = 20 + below(40);
        int first = below(30);
        int made = first;
        for (int i = 0; i < first; i++) appendOne();
        while (made < CALLS - 150) made += someCalls(style);
        readAll();
    }

    private void coversEnough() {
        boolean enough = true;
        for (int e = 1; e <= 4; e++) enough &= endings[e] > 1000;
        for (int h = -4; h <= 5; h++) enough &= h >= 0 && h <= 2 || hookAnswers.getOrDefault(h, 0) > 100;
        if (!enough) {
            wrong++;
            System.out.println("the runs of calls are too alike: endings " + java.util.Arrays.toString(endings)
                + ", answers of hook " + hookAnswers);
        }
    }

    public static void main(String[] args) {
        ModelTest test = new ModelTest();
        for (test.object = 1; test.object <= OBJECTS; test.object++) test.oneObject();
        test.coversEnough();
        System.out.println(test.wrong == 0 ? "all answers are as due" : test.wrong + " answers are not as due");
        if (test.wrong != 0) System.exit(1);
    }
}
