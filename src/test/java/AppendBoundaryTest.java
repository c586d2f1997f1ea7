import java.util.ArrayList;
import java.util.List;

/** Promises 2 to 10: each test, in the order given, before an instruction is appended. */
public final class AppendBoundaryTest extends Checks {
    private static final int[] OUTER_REGISTERS = {LEAST, -1, 4, GREATEST};
    private static final int[] EDGE_REGISTERS = {0, 3};
    private static final int[] OUTER_TARGETS = {LEAST, -129, 128, GREATEST};
    private static final int[] EDGE_TARGETS = {-128, -1, 0, 127};

    private record Named(String name, Call call) {
    }

    private interface WithOne {
        int on(DetourHooker x, int first);
    }

    private interface WithTwo {
        int on(DetourHooker x, int first, int second);
    }

    /** The calls of one promise: those whose arguments are the last ones taken, and the first ones refused. */
    private static final class Appending {
        final String promise;
        final int size;
        final List<Named> taken = new ArrayList<>();
        final List<Named> outer = new ArrayList<>();

        Appending(String promise, int size) {
            this.promise = promise;
            this.size = size;
        }

        Appending one(String name, WithOne call, int[] edge, int[] outside) {
            for (int v : edge) taken.add(new Named(name + "(" + v + ")", x -> call.on(x, v)));
            for (int v : outside) outer.add(new Named(name + "(" + v + ")", x -> call.on(x, v)));
            return this;
        }

        Appending two(String name, WithTwo call, int[] secondEdge, int[] secondOutside) {
            for (int v : EDGE_REGISTERS) pairs(taken, name, call, v, secondEdge);
            for (int v : EDGE_REGISTERS) pairs(outer, name, call, v, secondOutside);
            for (int v : OUTER_REGISTERS) pairs(outer, name, call, v, secondEdge);
            for (int v : OUTER_REGISTERS) pairs(outer, name, call, v, secondOutside);
            return this;
        }

        private static void pairs(List<Named> list, String name, WithTwo call, int first, int[] seconds) {
            for (int second : seconds) {
                list.add(new Named(name + "(" + first + ", " + second + ")", x -> call.on(x, first, second)));
            }
        }
    }

    private static Appending[] appendings() {
        Appending halt = new Appending("promise 2, halt", 1);
        halt.taken.add(new Named("halt()", x -> x.halt()));
        Appending giveBack = new Appending("promise 9, giveBack", 1);
        giveBack.taken.add(new Named("giveBack()", x -> x.giveBack()));
        return new Appending[] {
            halt,
            new Appending("promise 3, inc", 2).one("inc", (x, r) -> x.inc(r), EDGE_REGISTERS, OUTER_REGISTERS),
            new Appending("promise 4, dec", 2).one("dec", (x, r) -> x.dec(r), EDGE_REGISTERS, OUTER_REGISTERS),
            new Appending("promise 5, move", 2)
                .two("move", (x, r, s) -> x.move(r, s), EDGE_REGISTERS, OUTER_REGISTERS),
            new Appending("promise 6, jump", 2).one("jump", (x, t) -> x.jump(t), EDGE_TARGETS, OUTER_TARGETS),
            new Appending("promise 7, branch", 3)
                .two("branch", (x, r, t) -> x.branch(r, t), EDGE_TARGETS, OUTER_TARGETS),
            new Appending("promise 8, call", 2).one("call", (x, t) -> x.call(t), EDGE_TARGETS, OUTER_TARGETS),
            giveBack,
            new Appending("promise 10, where", 2).one("where", (x, r) -> x.where(r), EDGE_REGISTERS, OUTER_REGISTERS)
        };
    }

    private static void answersItsAddress(Appending a) {
        for (Named n : a.taken) {
            for (int before = 0; before + a.size <= 64; before++) {
                DetourHooker x = halts(before);
                due(n.name + " at " + before, n.call.on(x), before);
                due("length()", x.length(), before + a.size);
                if (before + a.size < 64) due("the next halt()", x.halt(), before + a.size);
            }
        }
    }

    private static void fillsTheCode(Appending a) {
        for (Named n : a.taken) {
            DetourHooker x = halts(64 - a.size);
            due(n.name + " up to the last byte", n.call.on(x), 64 - a.size);
            due("length()", x.length(), 64);
            due(n.name + " again", n.call.on(x), FULL);
        }
    }

    private static void fullWhenOneByteIsTooMany(Appending a) {
        for (Named n : a.taken) {
            for (int before = 64 - a.size + 1; before <= 64; before++) {
                int length = before;
                refused(n.name + " at " + before, () -> halts(length), n.call, FULL);
            }
        }
    }

    private static void fullLeavesRoomForLess(Appending a) {
        for (Named n : a.taken) {
            for (int before = 64 - a.size + 1; before < 64; before++) {
                DetourHooker x = halts(before);
                n.call.on(x);
                if (before == 62) due("inc(0) after a refused " + n.name, x.inc(0), 62);
                if (before == 63) due("halt() after a refused " + n.name, x.halt(), 63);
                due("length()", x.length(), 64);
            }
        }
    }

    private static void hookedWithRoom(Appending a) {
        for (Named n : a.taken) {
            refused(n.name + " with one hook", () -> hookedHalts(3, 0), n.call, HOOKED);
            refused(n.name + " with four hooks", () -> hookedHalts(12, 0, 3, 6, 9), n.call, HOOKED);
            refused(n.name + " with a hook and just room enough", () -> hookedHalts(64 - a.size, 0), n.call, HOOKED);
        }
    }

    private static void hookedBeforeFull(Appending a) {
        for (Named n : a.taken) {
            for (int before = 64 - a.size + 1; before <= 64; before++) {
                int length = before;
                refused(n.name + " with a hook at " + before, () -> hookedHalts(length, 0), n.call, HOOKED);
            }
        }
    }

    private static void takenAfterTheLastUnhook(Appending a) {
        for (Named n : a.taken) {
            DetourHooker x = hookedHalts(6, 0, 3);
            x.unhook(0);
            due(n.name + " with one hook of two left", n.call.on(x), HOOKED);
            x.unhook(3);
            due(n.name + " with no hook left", n.call.on(x), 6);
        }
    }

    private static void argumentFirst(Appending a) {
        for (Named n : a.outer) {
            refused(n.name + " with no code", () -> halts(0), n.call, BAD_ARG);
            refused(n.name + " with room", () -> codeOf(3, 2, 1), n.call, BAD_ARG);
            refused(n.name + " with full code", () -> halts(64), n.call, BAD_ARG);
            refused(n.name + " with a hook", () -> hookedHalts(3, 0), n.call, BAD_ARG);
            refused(n.name + " with a hook and full code", () -> hookedHalts(64, 61), n.call, BAD_ARG);
        }
    }

    public static void main(String[] args) {
        for (Appending a : appendings()) {
            sentence(a.promise + ": otherwise answers the address at which it begins", () -> answersItsAddress(a));
            sentence(a.promise + ": 64 bytes are not more than 64", () -> fillsTheCode(a));
            sentence(a.promise + ": more than 64 bytes answers FULL", () -> fullWhenOneByteIsTooMany(a));
            if (a.size > 1) {
                sentence(a.promise + ": FULL leaves room for what is smaller", () -> fullLeavesRoomForLess(a));
            }
            sentence(a.promise + ": an address is hooked answers HOOKED", () -> hookedWithRoom(a));
            sentence(a.promise + ": HOOKED is tested before FULL", () -> hookedBeforeFull(a));
            sentence(a.promise + ": no address is hooked any more", () -> takenAfterTheLastUnhook(a));
            if (!a.outer.isEmpty()) {
                sentence(a.promise + ": out of range answers BAD_ARG, tested first", () -> argumentFirst(a));
            }
        }
        end();
    }
}
