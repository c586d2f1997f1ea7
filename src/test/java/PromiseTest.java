/** Each promise by hand: ordinary inputs, the edges that the document names, and wrong inputs. */
public final class PromiseTest extends Checks {
    private interface RegisterAppender {
        int appendTo(DetourHooker x, int r);
    }

    /** What every appending call has in common with halt. */
    private static void appendsAsHalt(String call, Call appender, int... bytes) {
        int size = bytes.length;
        for (int before = 0; before <= 64; before++) {
            DetourHooker x = halts(before);
            if (before + size <= 64) {
                due(call + " at " + before, appender.on(x), before);
                dueBytes(x, before, bytes);
                due("peek behind the code", x.peek(before + size), BAD_ARG);
            } else {
                String state = stateOf(x);
                due(call + " at " + before, appender.on(x), FULL);
                dueText("state after a refused " + call, stateOf(x), state);
                due("halt() after a refused " + call, x.halt(), before < 64 ? before : FULL);
            }
        }
        for (int before = 3; before <= 64; before += 61) {
            DetourHooker x = halts(before);
            due("hook(0)", x.hook(0), 3);
            String state = stateOf(x);
            due(call + " with a hook at length " + before, appender.on(x), HOOKED);
            dueText("state after a refused " + call, stateOf(x), state);
            due("unhook(0)", x.unhook(0), 0);
            due(call + " after the unhook", appender.on(x), before == 64 ? FULL : before);
        }
    }

    /** A bad argument is told before a hook and before full code, and changes nothing. */
    private static void refusesArgument(String call, Call appender) {
        DetourHooker empty = new DetourHooker();
        due(call, appender.on(empty), BAD_ARG);
        due("length() after " + call, empty.length(), 0);
        DetourHooker full = halts(64);
        due(call + " with full code", appender.on(full), BAD_ARG);
        due("hook(0)", full.hook(0), 3);
        String state = stateOf(full);
        due(call + " with full code and a hook", appender.on(full), BAD_ARG);
        dueText("state after " + call, stateOf(full), state);
    }

    private static void newObject() {
        about("promise 1");
        DetourHooker x = new DetourHooker();
        dueText("a new object", stateOf(x), "code registers 0 0 0 0 hooks 0: ending 0 executed 0");
        for (int a = 0; a < 64; a++) {
            due("peek(" + a + ")", x.peek(a), BAD_ARG);
            due("hook(" + a + ")", x.hook(a), UNFIT);
        }
        due("clear()", x.clear(), 0);
        DetourHooker used = halts(3);
        used.setRegister(0, 5);
        used.hook(0);
        used.run(0);
        dueText("a new object beside a used one", stateOf(new DetourHooker()),
            "code registers 0 0 0 0 hooks 0: ending 0 executed 0");
    }

    private static void halt() {
        about("promise 2");
        appendsAsHalt("halt()", x -> x.halt(), 0);
        DetourHooker x = halts(1);
        x.setRegister(1, 7);
        dueRun(x, 0, HALTED, 1);
        dueRegisters(x, 0, 7, 0, 0);
    }

    /** inc and dec: all four registers, the others left alone, and the wrap from one end to the other. */
    private static void addsToRegister(
            String name, RegisterAppender append, int kind, int change, int end, int wrapped) {
        for (int i = 0; i < 4; i++) {
            int r = i;
            appendsAsHalt(name + "(" + r + ")", x -> append.appendTo(x, r), kind, r);
            DetourHooker x = new DetourHooker();
            append.appendTo(x, r);
            x.halt();
            for (int s = 0; s < 4; s++) x.setRegister(s, 10 * s);
            dueRun(x, 0, HALTED, 2);
            for (int s = 0; s < 4; s++) due("register(" + s + ")", x.register(s), s == r ? 10 * s + change : 10 * s);
            x.setRegister(r, end);
            dueRun(x, 0, HALTED, 2);
            due(name + " of " + end, x.register(r), wrapped);
        }
        for (int r : NO_REGISTERS) refusesArgument(name + "(" + r + ")", x -> append.appendTo(x, r));
    }

    private static void inc() {
        about("promise 3");
        addsToRegister("inc", (x, r) -> x.inc(r), 1, 1, GREATEST, LEAST);
    }

    private static void dec() {
        about("promise 4");
        addsToRegister("dec", (x, r) -> x.dec(r), 2, -1, LEAST, GREATEST);
    }

    private static void move() {
        about("promise 5");
        for (int i = 0; i < 16; i++) {
            int r = i % 4;
            int s = i / 4;
            appendsAsHalt("move(" + r + ", " + s + ")", x -> x.move(r, s), 3, r + 4 * s);
            DetourHooker x = new DetourHooker();
            x.move(r, s);
            x.halt();
            for (int t = 0; t < 4; t++) x.setRegister(t, 100 + t);
            dueRun(x, 0, HALTED, 2);
            for (int t = 0; t < 4; t++) due("register(" + t + ")", x.register(t), t == r ? 100 + s : 100 + t);
        }
        for (int bad : NO_REGISTERS) {
            refusesArgument("move(" + bad + ", 0)", x -> x.move(bad, 0));
            refusesArgument("move(3, " + bad + ")", x -> x.move(3, bad));
            refusesArgument("move(" + bad + ", " + bad + ")", x -> x.move(bad, bad));
        }
    }

    private static void jump() {
        about("promise 6");
        int[][] targets = {{-128, 128}, {-127, 129}, {-1, 255}, {0, 0}, {1, 1}, {126, 126}, {127, 127}};
        for (int[] t : targets) appendsAsHalt("jump(" + t[0] + ")", x -> x.jump(t[0]), 4, t[1]);
        for (int bad : NO_TARGETS) refusesArgument("jump(" + bad + ")", x -> x.jump(bad));
        DetourHooker x = new DetourHooker();
        x.jump(3);
        x.inc(0);
        x.halt();
        x.inc(1);
        x.jump(-5);
        dueRun(x, 0, HALTED, 4);
        dueRegisters(x, 0, 1, 0, 0);
        DetourHooker self = new DetourHooker();
        self.jump(-2);
        dueRun(self, 0, TIRED, 200);
        int[] outside = {-128, -3, 0, 127};
        for (int t : outside) {
            DetourHooker y = new DetourHooker();
            y.jump(t);
            dueRun(y, 0, BAD_CODE, 1);
        }
        DetourHooker into = new DetourHooker();
        into.jump(1);
        into.inc(0);
        into.halt();
        dueRun(into, 0, BAD_CODE, 1);
    }

    private static void branch() {
        about("promise 7");
        int[][] targets = {{-128, 128}, {-1, 255}, {0, 0}, {127, 127}};
        for (int i = 0; i < 4; i++) {
            int r = i;
            for (int[] t : targets) {
                appendsAsHalt("branch(" + r + ", " + t[0] + ")", x -> x.branch(r, t[0]), 5, r, t[1]);
            }
            DetourHooker x = new DetourHooker();
            x.branch(r, 3);
            x.inc((r + 1) % 4);
            x.halt();
            x.inc((r + 2) % 4);
            x.jump(-5);
            dueRun(x, 0, HALTED, 3);
            due("register beside a branch not taken", x.register((r + 1) % 4), 1);
            due("register beside a branch not taken", x.register((r + 2) % 4), 0);
            int[] values = {1, -1, 256, LEAST, GREATEST};
            for (int k = 0; k < values.length; k++) {
                x.setRegister(r, values[k]);
                dueRun(x, 0, HALTED, 4);
                due("register beside a branch taken", x.register((r + 1) % 4), 1);
                due("register beside a branch taken", x.register((r + 2) % 4), k + 1);
                due("the branch's register", x.register(r), values[k]);
            }
        }
        for (int bad : NO_REGISTERS) refusesArgument("branch(" + bad + ", 0)", x -> x.branch(bad, 0));
        for (int bad : NO_TARGETS) refusesArgument("branch(3, " + bad + ")", x -> x.branch(3, bad));
        refusesArgument("branch(4, 128)", x -> x.branch(4, 128));
    }

    private static void call() {
        about("promise 8");
        int[][] targets = {{-128, 128}, {-127, 129}, {-1, 255}, {0, 0}, {1, 1}, {127, 127}};
        for (int[] t : targets) appendsAsHalt("call(" + t[0] + ")", x -> x.call(t[0]), 6, t[1]);
        for (int bad : NO_TARGETS) refusesArgument("call(" + bad + ")", x -> x.call(bad));
        DetourHooker self = new DetourHooker();
        self.call(-2);
        dueRun(self, 0, OVERFLOW, 9);
        dueRun(self, 0, OVERFLOW, 9);
        DetourHooker outside = new DetourHooker();
        outside.call(-3);
        dueRun(outside, 0, BAD_CODE, 1);
        // Eight calls deep is fine, the ninth is one too many.
        for (int depth = 1; depth <= 10; depth++) {
            DetourHooker x = new DetourHooker();
            x.call(1);
            x.halt();
            for (int i = 1; i < depth; i++) {
                x.call(1);
                x.giveBack();
            }
            x.inc(0);
            x.giveBack();
            boolean fits = depth <= 8;
            dueRun(x, 0, fits ? HALTED : OVERFLOW, fits ? 2 * depth + 2 : 9);
            due("register(0)", x.register(0), fits ? 1 : 0);
        }
    }

    private static void giveBack() {
        about("promise 9");
        appendsAsHalt("giveBack()", x -> x.giveBack(), 7);
        DetourHooker x = new DetourHooker();
        x.giveBack();
        dueRun(x, 0, HALTED, 1);
        x.clear();
        x.call(5);
        x.inc(0);
        x.call(1);
        x.halt();
        x.inc(1);
        x.giveBack();
        dueRun(x, 0, HALTED, 8);
        dueRegisters(x, 1, 2, 0, 0);
        // The return stack is empty at each run's start, however the last one ended.
        DetourHooker left = new DetourHooker();
        left.call(1);
        left.giveBack();
        left.halt();
        dueRun(left, 0, HALTED, 2);
        dueRun(left, 2, HALTED, 1);
    }

    private static void where() {
        about("promise 10");
        for (int i = 0; i < 4; i++) {
            int r = i;
            appendsAsHalt("where(" + r + ")", x -> x.where(r), 8, r);
            DetourHooker x = halts(1);
            x.where(r);
            x.halt();
            for (int s = 0; s < 4; s++) x.setRegister(s, 100 + s);
            dueRun(x, 1, HALTED, 2);
            for (int s = 0; s < 4; s++) due("register(" + s + ")", x.register(s), s == r ? 3 : 100 + s);
        }
        for (int r : NO_REGISTERS) refusesArgument("where(" + r + ")", x -> x.where(r));
        DetourHooker last = halts(62);
        last.where(2);
        dueRun(last, 62, BAD_CODE, 1);
        due("register(2)", last.register(2), 64);
        // A hook doesn't change what the program sees of its own place.
        DetourHooker x = new DetourHooker();
        x.where(0);
        x.where(1);
        x.halt();
        due("hook(0)", x.hook(0), 4);
        dueRun(x, 0, HALTED, 3);
        dueRegisters(x, 2, 4, 0, 0);
    }

    private static void length() {
        about("promise 11");
        DetourHooker x = new DetourHooker();
        due("length()", x.length(), 0);
        x.halt();
        due("length()", x.length(), 1);
        x.move(1, 2);
        due("length()", x.length(), 3);
        x.branch(0, 0);
        due("length()", x.length(), 6);
        x.inc(9);
        due("length() after a refused call", x.length(), 6);
        x.clear();
        due("length()", x.length(), 0);
        due("length() of full code", halts(64).length(), 64);
    }

    private static void peek() {
        about("promise 12");
        DetourHooker x = new DetourHooker();
        x.halt();
        x.inc(3);
        x.dec(2);
        x.move(1, 3);
        x.jump(-2);
        x.branch(2, 100);
        x.call(-100);
        x.giveBack();
        x.where(1);
        int[] bytes = {0, 1, 3, 2, 2, 3, 13, 4, 254, 5, 2, 100, 6, 156, 7, 8, 1};
        dueBytes(x, 0, bytes);
        due("peek behind the code", x.peek(17), BAD_ARG);
        for (int bad : NO_ADDRESSES) due("peek(" + bad + ")", x.peek(bad), BAD_ARG);
        due("hook(0)", x.hook(0), 3);
        due("hook(9)", x.hook(9), 3);
        x.run(0);
        dueBytes(x, 0, bytes);
        DetourHooker full = halts(62);
        full.jump(-1);
        due("peek(63)", full.peek(63), 255);
        due("peek(64)", full.peek(64), BAD_ARG);
        full.clear();
        for (int a = 0; a < 64; a++) due("peek(" + a + ") after clear", full.peek(a), BAD_ARG);
    }

    private static void clear() {
        about("promise 13");
        DetourHooker x = new DetourHooker();
        due("clear()", x.clear(), 0);
        x.inc(0);
        x.inc(1);
        x.halt();
        x.setRegister(3, -9);
        dueRun(x, 0, HALTED, 3);
        due("hook(0)", x.hook(0), 4);
        String state = stateOf(x);
        due("clear() with a hook", x.clear(), HOOKED);
        dueText("state after a refused clear", stateOf(x), state);
        due("unhook(0)", x.unhook(0), 0);
        due("clear()", x.clear(), 5);
        dueText("state after clear", stateOf(x), "code registers 1 1 0 -9 hooks 0: ending 1 executed 3");
        due("clear() again", x.clear(), 0);
        dueRun(x, 0, BAD_CODE, 0);
        // Where instructions began before must not count afterwards.
        due("branch", x.branch(0, 1), 0);
        due("branch", x.branch(0, 1), 3);
        dueRun(x, 2, BAD_CODE, 0);
        dueRun(x, 4, BAD_CODE, 0);
        due("hook(2)", x.hook(2), UNFIT);
        due("hook(4)", x.hook(4), UNFIT);
        DetourHooker full = halts(64);
        due("clear() of full code", full.clear(), 64);
        due("halt()", full.halt(), 0);
        // A jump that is gone stands in no hook's way.
        DetourHooker gone = new DetourHooker();
        gone.halt();
        gone.halt();
        gone.halt();
        gone.jump(-4);
        due("hook(0)", gone.hook(0), UNFIT);
        due("clear()", gone.clear(), 5);
        gone.halt();
        gone.halt();
        gone.halt();
        due("hook(0)", gone.hook(0), 3);
    }

    private static void setRegister() {
        about("promise 14");
        DetourHooker x = new DetourHooker();
        int[] values = {0, 1, -1, 255, 256, LEAST, GREATEST};
        for (int r = 0; r < 4; r++) {
            for (int v : values) {
                due("setRegister(" + r + ", " + v + ")", x.setRegister(r, v), 0);
                due("register(" + r + ")", x.register(r), v);
            }
        }
        for (int r = 0; r < 4; r++) x.setRegister(r, 10 + r);
        for (int bad : NO_REGISTERS) due("setRegister(" + bad + ", 5)", x.setRegister(bad, 5), BAD_ARG);
        dueRegisters(x, 10, 11, 12, 13);
        for (int i = 0; i < 3; i++) x.halt();
        x.hook(0);
        due("setRegister with a hook", x.setRegister(2, 77), 0);
        dueRegisters(x, 10, 11, 77, 13);
    }

    private static void register() {
        about("promise 15");
        DetourHooker x = new DetourHooker();
        for (int r = 0; r < 4; r++) x.setRegister(r, -5 - r);
        dueRegisters(x, -5, -6, -7, -8);
        for (int bad : NO_REGISTERS) due("register(" + bad + ")", x.register(bad), 0);
        dueRegisters(x, -5, -6, -7, -8);
    }

    private static void hookHeads() {
        about("promise 16");
        int[][] fitting = {
            {3, 1, 1, 1}, {4, 1, 1, 2}, {5, 1, 1, 3}, {3, 1, 2}, {4, 1, 3}, {3, 2, 1}, {4, 2, 2}, {5, 2, 3}, {3, 3},
            {3, 1, 1, 1, 1}, {3, 1, 2, 3}, {3, 3, 3}, {4, 2, 2, 1}};
        for (int[] f : fitting) {
            int[] sizes = new int[f.length - 1];
            for (int i = 1; i < f.length; i++) sizes[i - 1] = f[i];
            DetourHooker x = codeOf(sizes);
            due("hook(0) of a head of " + f[0], x.hook(0), f[0]);
            due("calls(0)", x.calls(0), 0);
            due("hooks()", x.hooks(), 1);
        }
        int[][] unfit = {{}, {1}, {2}, {1, 1}};
        for (int[] sizes : unfit) {
            DetourHooker x = codeOf(sizes);
            due("hook(0) of too little code", x.hook(0), UNFIT);
            due("hooks()", x.hooks(), 0);
            due("halt() after a refused hook", x.halt(), x.length() - 1);
        }
        // At the end of full code.
        DetourHooker end = halts(64);
        due("hook(63)", end.hook(63), UNFIT);
        due("hook(62)", end.hook(62), UNFIT);
        due("hook(61)", end.hook(61), 3);
        // Inside an instruction, even where the byte looks like one.
        DetourHooker inside = codeOf(3, 3, 3);
        due("hook(1)", inside.hook(1), UNFIT);
        due("hook(2)", inside.hook(2), UNFIT);
        due("hook(9)", inside.hook(9), UNFIT);
        due("hook(63)", inside.hook(63), UNFIT);
        due("hook(3)", inside.hook(3), 3);
    }

    private static void hookOrder() {
        DetourHooker x = halts(20);
        int[] hooked = {0, 3, 6, 9};
        for (int a : hooked) due("hook(" + a + ")", x.hook(a), 3);
        for (int a : hooked) due("hook(" + a + ") again", x.hook(a), HOOKED);
        String state = stateOf(x);
        for (int bad : NO_ADDRESSES) due("hook(" + bad + ")", x.hook(bad), BAD_ARG);
        due("a fifth hook", x.hook(12), FULL);
        due("a fifth hook in a hooked head", x.hook(1), FULL);
        due("a fifth hook behind the code", x.hook(63), FULL);
        dueText("state after refused hooks", stateOf(x), state);
        due("unhook(3)", x.unhook(3), 0);
        due("hook(12)", x.hook(12), 3);
        due("hook(3)", x.hook(3), FULL);
        due("unhook(12)", x.unhook(12), 0);
        due("hook(4)", x.hook(4), UNFIT);
        due("hook(3)", x.hook(3), 3);
        DetourHooker one = halts(12);
        due("hook(4)", one.hook(4), 3);
        int[] near = {2, 3, 5, 6};
        for (int a : near) due("hook(" + a + ")", one.hook(a), UNFIT);
        due("hook(1)", one.hook(1), 3);
        due("hook(7)", one.hook(7), 3);
        DetourHooker wide = codeOf(1, 1, 3, 1, 1, 1, 1, 3);
        due("hook(0)", wide.hook(0), 5);
        due("hook(2)", wide.hook(2), UNFIT);
        due("hook(5)", wide.hook(5), 3);
        due("hook(8)", wide.hook(8), 4);
    }

    /** An address of a head other than the first is a target of a jump, a branch or a call. */
    private static void hookTargets() {
        for (int kind = 4; kind <= 6; kind++) {
            for (int target = -2; target <= 14; target++) {
                for (int at = 0; at <= 8; at += 4) {
                    DetourHooker x = halts(at);
                    appendTo(x, kind, target);
                    while (x.length() < 12) x.halt();
                    int first = at == 4 ? 7 : 4;
                    if (at == 0) first = 5;
                    boolean into = target > first && target < first + 3;
                    due("hook(" + first + ") with kind " + kind + " at " + at + " to " + target,
                        x.hook(first), into ? UNFIT : 3);
                }
            }
            // From inside the head itself, and to the inside of an instruction.
            for (int target = -1; target <= 6; target++) {
                DetourHooker x = new DetourHooker();
                appendTo(x, kind, target);
                x.inc(0);
                x.halt();
                int head = kind == 5 ? 3 : 4;
                boolean into = target > 0 && target < head;
                due("hook(0) with its own target " + target, x.hook(0), into ? UNFIT : head);
            }
        }
        // An operand byte that looks like a jump, and an inc whose operand looks like a target, are none.
        DetourHooker x = new DetourHooker();
        x.move(0, 1);
        x.inc(0);
        x.halt();
        x.halt();
        x.halt();
        due("peek(1)", x.peek(1), 4);
        due("hook(2)", x.hook(2), 3);
        // Several targets, of which only the last is in the way.
        DetourHooker many = halts(4);
        many.jump(20);
        many.call(20);
        many.branch(0, -11);
        many.jump(-12);
        due("hook(0)", many.hook(0), UNFIT);
        due("hooks()", many.hooks(), 0);
    }

    private static void unhook() {
        about("promise 17");
        DetourHooker x = halts(9);
        for (int bad : NO_ADDRESSES) due("unhook(" + bad + ")", x.unhook(bad), BAD_ARG);
        due("unhook(0)", x.unhook(0), HOOKED);
        due("unhook(63)", x.unhook(63), HOOKED);
        due("hooks()", x.hooks(), 0);
        x.hook(0);
        x.hook(3);
        for (int i = 0; i < 3; i++) x.run(0);
        x.run(3);
        String state = stateOf(x);
        due("unhook(1)", x.unhook(1), HOOKED);
        due("unhook(64)", x.unhook(64), BAD_ARG);
        dueText("state after refused unhooks", stateOf(x), state);
        due("unhook(0)", x.unhook(0), 3);
        due("unhook(0) again", x.unhook(0), HOOKED);
        due("hooks()", x.hooks(), 1);
        due("calls(3)", x.calls(3), 1);
        due("halt() with one hook left", x.halt(), HOOKED);
        due("unhook(3)", x.unhook(3), 1);
        due("hooks()", x.hooks(), 0);
        due("halt()", x.halt(), 9);
    }

    private static void calls() {
        about("promise 18");
        DetourHooker x = halts(9);
        for (int bad : NO_ADDRESSES) due("calls(" + bad + ")", x.calls(bad), BAD_ARG);
        due("calls(0)", x.calls(0), HOOKED);
        due("calls(63)", x.calls(63), HOOKED);
        x.run(0);
        x.hook(0);
        due("calls(0) before a run", x.calls(0), 0);
        x.run(0);
        x.run(0);
        due("calls(0)", x.calls(0), 2);
        x.run(1);
        x.run(64);
        due("calls(0) after runs elsewhere", x.calls(0), 2);
        due("hook(0)", x.hook(0), HOOKED);
        due("calls(0)", x.calls(0), 2);
        due("unhook(0)", x.unhook(0), 2);
        x.run(0);
        due("hook(0)", x.hook(0), 3);
        due("calls(0) of a new hook", x.calls(0), 0);
        x.run(0);
        due("calls(0)", x.calls(0), 1);
        // A branch not taken, a call that overflows and a return that halts are executed as well.
        DetourHooker branch = codeOf(3, 1);
        branch.hook(0);
        branch.run(0);
        due("calls of a branch not taken", branch.calls(0), 1);
        DetourHooker deep = new DetourHooker();
        deep.call(-2);
        deep.halt();
        deep.hook(0);
        dueRun(deep, 0, OVERFLOW, 9);
        due("calls of a call without end", deep.calls(0), 9);
        DetourHooker back = new DetourHooker();
        back.giveBack();
        back.halt();
        back.halt();
        back.hook(0);
        dueRun(back, 0, HALTED, 1);
        due("calls of a return that halts", back.calls(0), 1);
        // Only the 200 that were executed count, not the one that was too many.
        DetourHooker tired = new DetourHooker();
        tired.jump(-2);
        tired.halt();
        tired.hook(0);
        dueRun(tired, 0, TIRED, 200);
        due("calls of a tired run", tired.calls(0), 200);
        dueRun(tired, 0, TIRED, 200);
        due("calls of two tired runs", tired.calls(0), 400);
        due("unhook(0)", tired.unhook(0), 400);
    }

    private static void hooks() {
        about("promise 19");
        DetourHooker x = halts(20);
        for (int i = 0; i < 4; i++) {
            due("hooks()", x.hooks(), i);
            x.hook(4 * i);
        }
        due("hooks()", x.hooks(), 4);
        x.hook(16);
        x.hook(0);
        x.hook(-1);
        x.unhook(1);
        x.run(0);
        due("hooks() after refused calls", x.hooks(), 4);
        for (int i = 3; i >= 0; i--) {
            x.unhook(4 * i);
            due("hooks()", x.hooks(), i);
        }
    }

    private static void run() {
        about("promise 20");
        DetourHooker x = new DetourHooker();
        x.inc(0);
        x.halt();
        dueRun(x, 0, HALTED, 2);
        x.setRegister(1, 4);
        String state = stateOf(x);
        for (int bad : NO_ADDRESSES) due("run(" + bad + ")", x.run(bad), BAD_ARG);
        dueText("state after refused runs", stateOf(x), state);
        dueRun(x, 1, BAD_CODE, 0);
        dueRun(x, 3, BAD_CODE, 0);
        dueRun(x, 63, BAD_CODE, 0);
        dueRun(x, 2, HALTED, 1);
        dueRegisters(x, 1, 4, 0, 0);
        dueRun(halts(64), 63, HALTED, 1);
        // Running off the end of full code.
        DetourHooker full = halts(62);
        full.inc(3);
        dueRun(full, 62, BAD_CODE, 1);
        due("register(3)", full.register(3), 1);
        // The state of the registers goes from run to run, the return stack doesn't.
        DetourHooker deep = new DetourHooker();
        deep.call(1);
        deep.giveBack();
        deep.inc(0);
        deep.call(120);
        for (int i = 0; i < 12; i++) dueRun(deep, 0, BAD_CODE, 3);
        due("register(0)", deep.register(0), 12);
        dueRun(deep, 2, HALTED, 1);
        hookedRunsAlike();
        tiredEdges();
    }

    /** The same program with and without hooks ends alike. */
    private static void hookedRunsAlike() {
        DetourHooker plain = new DetourHooker();
        DetourHooker watched = new DetourHooker();
        DetourHooker[] both = {plain, watched};
        for (DetourHooker x : both) {
            x.where(1);
            x.call(6);
            x.dec(2);
            x.branch(2, -7);
            x.giveBack();
            x.where(3);
            x.inc(0);
            x.giveBack();
            x.setRegister(2, 5);
        }
        due("hook(0)", watched.hook(0), UNFIT);
        due("hook(4)", watched.hook(4), 5);
        due("hook(10)", watched.hook(10), 4);
        for (DetourHooker x : both) {
            dueRun(x, 0, HALTED, 32);
            dueRegisters(x, 5, 2, 0, 12);
        }
        due("calls(4)", watched.calls(4), 5);
        due("calls(10)", watched.calls(10), 5);
    }

    /** Tired after 200, before bad code is looked for, but after an ending 200th instruction. */
    private static void tiredEdges() {
        for (int n = 195; n <= 202; n++) {
            // dec and branch take two steps a turn; one inc more makes the count odd.
            for (int last = 0; last < 2; last++) {
                DetourHooker x = new DetourHooker();
                x.dec(0);
                x.branch(0, -5);
                if (n % 2 == 1) x.inc(1);
                if (last == 1) x.halt();
                int turns = n / 2;
                x.setRegister(0, turns);
                int steps = n + last;
                int ending = last == 1 ? HALTED : BAD_CODE;
                if (last == 1 && steps > 200 || last == 0 && steps >= 200) ending = TIRED;
                dueRun(x, 0, ending, Math.min(steps, 200));
            }
        }
    }

    private static void ending() {
        about("promise 21");
        DetourHooker x = new DetourHooker();
        due("ending()", x.ending(), NO_RUN);
        x.run(-1);
        due("ending() after a refused run", x.ending(), NO_RUN);
        x.halt();
        x.jump(-2);
        x.call(-2);
        x.run(0);
        due("ending()", x.ending(), HALTED);
        x.run(1);
        due("ending()", x.ending(), TIRED);
        x.run(3);
        due("ending()", x.ending(), OVERFLOW);
        x.run(64);
        due("ending() after a refused run", x.ending(), OVERFLOW);
        x.run(2);
        due("ending()", x.ending(), BAD_CODE);
        x.clear();
        x.halt();
        due("ending() after clear", x.ending(), BAD_CODE);
    }

    private static void executed() {
        about("promise 22");
        DetourHooker x = new DetourHooker();
        due("executed()", x.executed(), 0);
        x.run(64);
        due("executed() after a refused run", x.executed(), 0);
        x.inc(0);
        x.halt();
        x.jump(-2);
        x.call(-2);
        x.run(0);
        due("executed()", x.executed(), 2);
        x.run(-1);
        due("executed() after a refused run", x.executed(), 2);
        x.run(3);
        due("executed()", x.executed(), 200);
        x.run(5);
        due("executed()", x.executed(), 9);
        x.clear();
        due("executed() after clear", x.executed(), 9);
        x.run(0);
        due("executed() of bad code", x.executed(), 0);
    }

    public static void main(String[] args) {
        newObject();
        halt();
        inc();
        dec();
        move();
        jump();
        branch();
        call();
        giveBack();
        where();
        length();
        peek();
        clear();
        setRegister();
        register();
        hookHeads();
        hookOrder();
        hookTargets();
        unhook();
        calls();
        hooks();
        run();
        ending();
        executed();
        end();
    }
}
