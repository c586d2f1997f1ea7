/** 'Terms', HOOKS, and promises 16 to 19: what can be hooked, what is counted, and what a hook forbids. */
public final class HookBoundaryTest extends Checks {
    /** The size of the head first, then the sizes of the instructions; no shorter row has that head. */
    private static final int[][] HEADS = {
        {3, 1, 1, 1}, {3, 1, 2}, {3, 2, 1}, {3, 3}, {4, 1, 1, 2}, {4, 1, 3}, {4, 2, 2}, {5, 1, 1, 3}, {5, 2, 3}};

    private static int[] sizesOf(int[] head) {
        int[] sizes = new int[head.length - 1];
        for (int i = 0; i < sizes.length; i++) sizes[i] = head[i + 1];
        return sizes;
    }

    private static void runsBeforeTheHookDontCount() {
        DetourHooker x = halts(3);
        for (int i = 0; i < 5; i++) x.run(0);
        due("hook(0)", x.hook(0), 3);
        due("calls(0)", x.calls(0), 0);
        x.run(0);
        due("calls(0) after one run", x.calls(0), 1);
    }

    private static void hookedAnewCountsFrom0() {
        DetourHooker x = hookedHalts(3, 0);
        for (int i = 0; i < 5; i++) x.run(0);
        due("unhook(0)", x.unhook(0), 5);
        x.run(0);
        due("hook(0)", x.hook(0), 3);
        due("calls(0)", x.calls(0), 0);
        x.run(0);
        due("unhook(0)", x.unhook(0), 1);
    }

    private static void onlyTheFirstOfTheHeadCounts() {
        DetourHooker x = new DetourHooker();
        x.inc(0);
        x.inc(1);
        x.halt();
        x.hook(0);
        dueRun(x, 2, HALTED, 2);
        dueRun(x, 4, HALTED, 1);
        dueRun(x, 1, BAD_CODE, 0);
        due("calls(0) after runs from elsewhere", x.calls(0), 0);
        dueRun(x, 0, HALTED, 3);
        due("calls(0)", x.calls(0), 1);
    }

    private static void everyWayInCounts() {
        for (int kind = 4; kind <= 6; kind++) {
            DetourHooker x = halts(4);
            x.setRegister(1, 1);
            int from = appendTo(x, kind, 1);
            due("hook(1)", x.hook(1), 3);
            dueRun(x, from, HALTED, 2);
            due("calls(1) by kind " + kind, x.calls(1), 1);
        }
        DetourHooker back = new DetourHooker();
        back.call(3);
        back.inc(0);
        back.halt();
        back.giveBack();
        due("hook(2)", back.hook(2), 3);
        dueRun(back, 0, HALTED, 4);
        due("calls(2) by a return", back.calls(2), 1);
        DetourHooker on = new DetourHooker();
        on.inc(0);
        on.inc(0);
        on.halt();
        due("hook(2)", on.hook(2), 3);
        dueRun(on, 0, HALTED, 3);
        due("calls(2) from the instruction before", on.calls(2), 1);
    }

    private static void eachHasItsOwnCount() {
        DetourHooker x = hookedHalts(12, 0, 3, 6, 9);
        for (int i = 0; i < 4; i++) {
            for (int n = 0; n < i; n++) x.run(3 * i);
        }
        for (int i = 0; i < 4; i++) due("calls(" + 3 * i + ")", x.calls(3 * i), i);
        due("unhook(6)", x.unhook(6), 2);
        due("calls(3)", x.calls(3), 1);
        due("calls(9)", x.calls(9), 3);
    }

    private static void endingInstructionsCount() {
        DetourHooker overflow = new DetourHooker();
        overflow.call(-2);
        overflow.halt();
        overflow.hook(0);
        dueRun(overflow, 0, OVERFLOW, 9);
        due("calls(0) of a call that overflows", overflow.calls(0), 9);
        DetourHooker back = new DetourHooker();
        back.giveBack();
        back.inc(0);
        back.hook(0);
        dueRun(back, 0, HALTED, 1);
        due("calls(0) of a return that halts", back.calls(0), 1);
        DetourHooker tired = new DetourHooker();
        tired.jump(-2);
        tired.halt();
        tired.hook(0);
        dueRun(tired, 0, TIRED, 200);
        due("calls(0) of a tired run", tired.calls(0), 200);
    }

    /** The same code and runs with and without hooks: code, registers and ends are alike. */
    private static void hooksChangeNothingElse() {
        DetourHooker[] both = {new DetourHooker(), new DetourHooker()};
        for (DetourHooker x : both) {
            x.where(0);
            x.where(1);
            x.call(4);
            x.inc(2);
            x.jump(3);
            x.where(3);
            x.giveBack();
            x.halt();
            x.halt();
            x.halt();
        }
        due("hook(0)", both[1].hook(0), 4);
        due("hook(4)", both[1].hook(4), 4);
        due("hook(10)", both[1].hook(10), 3);
        due("hook(13)", both[1].hook(13), 3);
        String[] read = new String[2];
        for (int i = 0; i < 2; i++) {
            StringBuilder ends = new StringBuilder();
            for (int a = 0; a < 20; a++) {
                ends.append(' ').append(both[i].run(a)).append('/').append(both[i].executed());
                for (int r = 0; r < 4; r++) ends.append(',').append(both[i].register(r));
            }
            for (int a = 0; a < 16; a++) ends.append(' ').append(both[i].peek(a));
            read[i] = ends.append(' ').append(both[i].length()).toString();
        }
        dueText("what a hooked program does", read[1], read[0]);
    }

    /** The code ends with the head: nothing else could make up its bytes. */
    private static void headsAtTheEndOfTheCode() {
        for (int[] head : HEADS) {
            DetourHooker x = halts(64 - head[0]);
            appendSizes(x, sizesOf(head));
            due("length()", x.length(), 64);
            due("hook of a head of " + head[0], x.hook(64 - head[0]), head[0]);
        }
    }

    /** Behind the head comes more code, which is not of the head: the next head begins there. */
    private static void headsAreAsFewInstructionsAsWillDo() {
        for (int[] head : HEADS) {
            for (int[] next : HEADS) {
                DetourHooker x = codeOf(sizesOf(head));
                appendSizes(x, sizesOf(next));
                appendSizes(x, 1, 2, 3);
                due("hook(0) of a head of " + head[0], x.hook(0), head[0]);
                due("hook right behind it", x.hook(head[0]), next[0]);
            }
        }
    }

    private static void noInstructionBegins() {
        refused("hook(1) inside a branch", () -> codeOf(3, 3, 3), x -> x.hook(1), UNFIT);
        refused("hook(2) inside a branch", () -> codeOf(3, 3, 3), x -> x.hook(2), UNFIT);
        refused("hook(1) inside an inc", () -> codeOf(2, 2, 2), x -> x.hook(1), UNFIT);
        refused("hook(L)", () -> codeOf(3, 3), x -> x.hook(6), UNFIT);
        refused("hook(L + 1)", () -> codeOf(3, 3), x -> x.hook(7), UNFIT);
        refused("hook(63)", () -> codeOf(3, 3), x -> x.hook(63), UNFIT);
        refused("hook(0) without code", () -> halts(0), x -> x.hook(0), UNFIT);
        refused("hook(63) without code", () -> halts(0), x -> x.hook(63), UNFIT);
        due("hook(3) where one begins", codeOf(3, 3).hook(3), 3);
    }

    private static void fewerThan3BytesFromAOn() {
        int[][] tooFew = {{1}, {2}, {1, 1}};
        for (int[] sizes : tooFew) {
            int bytes = sizes.length == 2 ? 2 : sizes[0];
            for (int before = 0; before + bytes <= 64; before++) {
                int address = before;
                refused("hook(" + before + ") with " + bytes + " bytes from there on", () -> {
                    DetourHooker x = halts(address);
                    appendSizes(x, sizes);
                    return x;
                }, x -> x.hook(address), UNFIT);
            }
        }
        for (int n = 3; n <= 64; n++) due("hook(L - 3) at L " + n, halts(n).hook(n - 3), 3);
    }

    /** Four halts, the head in the middle, four halts; every other address either meets it or doesn't. */
    private static void noByteInCommon() {
        for (int[] head : HEADS) {
            Maker maker = () -> {
                DetourHooker x = halts(4);
                appendSizes(x, sizesOf(head));
                appendSizes(x, 1, 1, 1, 1);
                x.hook(4);
                return x;
            };
            int size = head[0];
            due("hook(1), which ends right before it", maker.make().hook(1), 3);
            refused("hook(2), which has its first byte", maker, x -> x.hook(2), UNFIT);
            refused("hook(3), which has its first bytes", maker, x -> x.hook(3), UNFIT);
            for (int a = 5; a < 4 + size; a++) {
                int inside = a;
                refused("hook(" + a + ") inside a head of " + size, maker, x -> x.hook(inside), UNFIT);
            }
            due("hook right behind it", maker.make().hook(4 + size), 3);
        }
    }

    /** A long head before the hooked one is unfit by its last byte alone. */
    private static void longHeadsMeetLaterOnes() {
        for (int[] head : HEADS) {
            int[] sizes = sizesOf(head);
            int last = sizes[sizes.length - 1];
            int inner = head[0] - last;
            Maker maker = () -> {
                DetourHooker x = codeOf(sizes);
                appendSizes(x, 1, 1, 1, 1);
                return x;
            };
            due("hook(0) alone", maker.make().hook(0), head[0]);
            DetourHooker x = maker.make();
            due("hook of its last instruction > 0", x.hook(inner) > 0 ? 1 : 0, 1);
            due("hook(0) with its last instruction hooked", x.hook(0), inner == 0 ? HOOKED : UNFIT);
            x.unhook(inner);
            due("hook(0) after the unhook", x.hook(0), head[0]);
        }
    }

    /** The first, the last or one between: each of the hooked heads is in the way, and only as far as it goes. */
    private static void anyOfTheHookedHeads() {
        int[] hooked = {0, 6, 12};
        for (int near : hooked) {
            DetourHooker x = hookedHalts(20, hooked);
            due("hook(" + (near + 2) + ")", x.hook(near + 2), UNFIT);
            due("hook(" + (near + 3) + ")", x.hook(near + 3), 3);
        }
    }

    private static void targetInsideTheHead() {
        for (int[] head : HEADS) {
            for (int kind = 4; kind <= 6; kind++) {
                for (int offset = 1; offset < head[0]; offset++) {
                    int k = kind;
                    int inside = offset;
                    refused("hook(3) with kind " + k + " behind it to its byte " + offset, () -> {
                        DetourHooker x = halts(3);
                        appendSizes(x, sizesOf(head));
                        appendTo(x, k, 3 + inside);
                        return x;
                    }, x -> x.hook(3), UNFIT);
                    refused("hook with kind " + k + " before it to its byte " + offset, () -> {
                        DetourHooker x = new DetourHooker();
                        appendTo(x, k, (k == 5 ? 3 : 2) + inside);
                        appendSizes(x, sizesOf(head));
                        return x;
                    }, x -> x.hook(k == 5 ? 3 : 2), UNFIT);
                }
            }
        }
    }

    /** To the first byte, to the byte before it and to the one behind the head: all fit. */
    private static void targetOutsideTheHead() {
        for (int[] head : HEADS) {
            for (int kind = 4; kind <= 6; kind++) {
                int[] targets = {-1, 2, 3, 3 + head[0], 4 + head[0]};
                for (int target : targets) {
                    DetourHooker x = halts(3);
                    appendSizes(x, sizesOf(head));
                    appendTo(x, kind, target);
                    due("hook(3) with kind " + kind + " to " + target, x.hook(3), head[0]);
                }
            }
        }
    }

    /** The jump, branch or call may be of the head itself, at its start or at its end. */
    private static void targetFromTheHeadItself() {
        for (int kind = 4; kind <= 6; kind++) {
            int size = kind == 5 ? 3 : 2;
            int first = kind == 5 ? 3 : 4;
            int second = 2 + size;
            for (int target = -1; target <= 6; target++) {
                DetourHooker atStart = new DetourHooker();
                appendTo(atStart, kind, target);
                appendSizes(atStart, 2, 1, 1);
                due("hook(0), kind " + kind + " to " + target + " first", atStart.hook(0),
                    target > 0 && target < first ? UNFIT : first);
                DetourHooker atEnd = codeOf(2);
                appendTo(atEnd, kind, target);
                appendSizes(atEnd, 1, 1);
                due("hook(0), kind " + kind + " to " + target + " last", atEnd.hook(0),
                    target > 0 && target < second ? UNFIT : second);
            }
        }
    }

    /** The first and the last place in full code from which a target can be in the way. */
    private static void targetFromAnywhere() {
        for (int kind = 4; kind <= 6; kind++) {
            int size = kind == 5 ? 3 : 2;
            DetourHooker last = halts(64 - size);
            appendTo(last, kind, 1);
            due("hook(0) with kind " + kind + " at the end", last.hook(0), UNFIT);
            due("hook(1)", last.hook(1), 3);
            DetourHooker first = new DetourHooker();
            appendTo(first, kind, 63);
            while (first.length() < 64) first.halt();
            due("hook(61) with kind " + kind + " at 0", first.hook(61), UNFIT);
            due("hook(60)", first.hook(60), 3);
        }
    }

    /** Every target that an instruction can have: two of them are inside the head, and none comes round to it. */
    private static void everyTarget() {
        for (int kind = 4; kind <= 6; kind++) {
            int next = 3 + (kind == 5 ? 3 : 2);
            for (int address = next - 128; address <= next + 127; address++) {
                DetourHooker x = halts(3);
                due("kind " + kind + " to " + address, appendTo(x, kind, address), 3);
                boolean inside = address == 1 || address == 2;
                due("hook(0) with kind " + kind + " to " + address, x.hook(0), inside ? UNFIT : 3);
            }
        }
    }

    /** Operands that look like jumps, branches or calls, and operands that look like targets. */
    private static void onlyTheKinds4To6() {
        DetourHooker operands = new DetourHooker();
        operands.move(0, 1);
        operands.move(1, 1);
        operands.move(2, 1);
        operands.halt();
        operands.halt();
        operands.halt();
        for (int i = 1; i <= 5; i += 2) due("peek(" + i + ")", operands.peek(i), 3 + (i + 1) / 2);
        due("hook(2)", operands.hook(2), 4);
        due("hook(6)", operands.hook(6), 3);
        DetourHooker registers = new DetourHooker();
        registers.inc(1);
        registers.dec(3);
        registers.where(2);
        registers.move(3, 3);
        due("hook(0)", registers.hook(0), 4);
        due("hook(4)", registers.hook(4), 4);
    }

    private static void atMost4() {
        DetourHooker x = halts(64);
        for (int i = 0; i < 4; i++) {
            due("hooks()", x.hooks(), i);
            due("hook(" + 3 * i + ")", x.hook(3 * i), 3);
        }
        due("hooks()", x.hooks(), 4);
        due("a fifth", x.hook(12), FULL);
        due("unhook(0)", x.unhook(0), 0);
        due("hooks()", x.hooks(), 3);
        due("another fourth", x.hook(12), 3);
        due("a fifth again", x.hook(0), FULL);
        due("hooks()", x.hooks(), 4);
    }

    private static void noInstructionWhileHooked() {
        Call[] appends = {
            x -> x.halt(), x -> x.inc(0), x -> x.dec(0), x -> x.move(0, 0), x -> x.jump(0), x -> x.branch(0, 0),
            x -> x.call(0), x -> x.giveBack(), x -> x.where(0)};
        for (int kind = 0; kind < appends.length; kind++) {
            refused("appending kind " + kind, () -> hookedHalts(3, 0), appends[kind], HOOKED);
            refused("appending kind " + kind + " after a run", () -> {
                DetourHooker x = hookedHalts(7, 1, 4);
                x.run(1);
                return x;
            }, appends[kind], HOOKED);
        }
    }

    private static DetourHooker fourHooked() {
        DetourHooker x = hookedHalts(20, 0, 3, 6, 9);
        for (int i = 0; i < 3; i++) x.run(3);
        return x;
    }

    private static void hookArguments() {
        for (int a : NO_ADDRESSES) {
            refused("hook(" + a + ")", () -> halts(64), x -> x.hook(a), BAD_ARG);
            refused("hook(" + a + ") without code", () -> halts(0), x -> x.hook(a), BAD_ARG);
            refused("hook(" + a + ") with four hooks", HookBoundaryTest::fourHooked, x -> x.hook(a), BAD_ARG);
        }
        due("hook(0)", halts(64).hook(0), 3);
        due("hook(63), never with 3 bytes", halts(64).hook(63), UNFIT);
    }

    private static void hookedAlready() {
        refused("hook(0) again", () -> hookedHalts(3, 0), x -> x.hook(0), HOOKED);
        refused("hook(61) again", () -> hookedHalts(64, 61), x -> x.hook(61), HOOKED);
        refused("hook(3) again after runs", () -> {
            DetourHooker x = hookedHalts(6, 3);
            x.run(3);
            return x;
        }, x -> x.hook(3), HOOKED);
    }

    private static void hookedBeforeFull() {
        for (int i = 0; i < 4; i++) {
            int a = 3 * i;
            refused("hook(" + a + ") again with four", HookBoundaryTest::fourHooked, x -> x.hook(a), HOOKED);
        }
    }

    private static void fullBeforeUnfit() {
        int[] unfit = {1, 2, 4, 11, 18, 19, 20, 63};
        for (int a : unfit) {
            refused("hook(" + a + ") with four", HookBoundaryTest::fourHooked, x -> x.hook(a), FULL);
            DetourHooker three = hookedHalts(20, 0, 3, 9);
            due("hook(" + a + ") with three", three.hook(a), UNFIT);
        }
        refused("hook(12), which fits, with four", HookBoundaryTest::fourHooked, x -> x.hook(12), FULL);
        due("hook(12) with three", hookedHalts(20, 0, 3, 6).hook(12), 3);
    }

    private static void hookAnswersTheHead() {
        for (int[] head : HEADS) {
            DetourHooker x = codeOf(sizesOf(head));
            due("hook(0) of a head of " + head[0], x.hook(0), head[0]);
            due("calls(0)", x.calls(0), 0);
            due("hooks()", x.hooks(), 1);
        }
    }

    private static void unhookArguments() {
        for (int a : NO_ADDRESSES) {
            refused("unhook(" + a + ")", () -> halts(64), x -> x.unhook(a), BAD_ARG);
            refused("unhook(" + a + ") with four hooks", HookBoundaryTest::fourHooked, x -> x.unhook(a), BAD_ARG);
        }
    }

    private static void unhookOfNoHook() {
        int[] free = {1, 2, 4, 12, 19, 20, 62, 63};
        for (int a : free) {
            refused("unhook(" + a + ") with four hooks", HookBoundaryTest::fourHooked, x -> x.unhook(a), HOOKED);
        }
        refused("unhook(0)", () -> halts(64), x -> x.unhook(0), HOOKED);
        refused("unhook(63)", () -> halts(64), x -> x.unhook(63), HOOKED);
        refused("unhook(0) without code", () -> halts(0), x -> x.unhook(0), HOOKED);
        refused("unhook(3) again", () -> {
            DetourHooker x = fourHooked();
            x.unhook(3);
            return x;
        }, x -> x.unhook(3), HOOKED);
    }

    private static void unhookAnswersItsCount() {
        DetourHooker x = fourHooked();
        due("unhook(0), never entered", x.unhook(0), 0);
        due("unhook(3), entered three times", x.unhook(3), 3);
        due("hooks()", x.hooks(), 2);
        DetourHooker end = hookedHalts(64, 61);
        end.run(61);
        due("unhook(61), the last that can be hooked", end.unhook(61), 1);
        DetourHooker tired = new DetourHooker();
        tired.jump(-2);
        tired.halt();
        tired.hook(0);
        tired.run(0);
        tired.run(0);
        due("unhook(0) of two tired runs", tired.unhook(0), 400);
    }

    private static void callsArguments() {
        for (int a : NO_ADDRESSES) {
            refused("calls(" + a + ")", () -> halts(64), x -> x.calls(a), BAD_ARG);
            refused("calls(" + a + ") with four hooks", HookBoundaryTest::fourHooked, x -> x.calls(a), BAD_ARG);
        }
    }

    private static void callsOfNoHook() {
        int[] free = {1, 2, 4, 12, 19, 20, 62, 63};
        for (int a : free) {
            refused("calls(" + a + ") with four hooks", HookBoundaryTest::fourHooked, x -> x.calls(a), HOOKED);
        }
        refused("calls(0)", () -> halts(64), x -> x.calls(0), HOOKED);
        refused("calls(63)", () -> halts(64), x -> x.calls(63), HOOKED);
        DetourHooker x = fourHooked();
        x.unhook(3);
        due("calls(3) after the unhook", x.calls(3), HOOKED);
        due("calls(0)", x.calls(0), 0);
    }

    private static void callsAnswersTheCount() {
        DetourHooker x = fourHooked();
        due("calls(3)", x.calls(3), 3);
        due("calls(3) once more", x.calls(3), 3);
        due("calls(0)", x.calls(0), 0);
        x.run(64);
        x.run(4);
        due("calls(3) after a refused run and one elsewhere", x.calls(3), 3);
        DetourHooker end = hookedHalts(64, 61);
        end.run(61);
        due("calls(61)", end.calls(61), 1);
    }

    private static void hooksFrom0To4() {
        DetourHooker x = halts(12);
        for (int i = 0; i < 4; i++) {
            due("hooks()", x.hooks(), i);
            x.hook(3 * i);
            x.hook(3 * i);
        }
        due("hooks()", x.hooks(), 4);
        x.hook(1);
        due("hooks() after FULL", x.hooks(), 4);
        for (int i = 0; i < 4; i++) {
            x.unhook(3 * i);
            x.unhook(3 * i);
            due("hooks()", x.hooks(), 3 - i);
        }
        x.hook(11);
        due("hooks() after UNFIT", x.hooks(), 0);
    }

    private static void countTests() {
        sentence("the count: in runs since it was hooked", HookBoundaryTest::runsBeforeTheHookDontCount);
        sentence("the count: since it was hooked the last time", HookBoundaryTest::hookedAnewCountsFrom0);
        sentence("the count: the instruction that begins there", HookBoundaryTest::onlyTheFirstOfTheHeadCounts);
        sentence("the count: whichever way the run came", HookBoundaryTest::everyWayInCounts);
        sentence("for each hooked address there is a count", HookBoundaryTest::eachHasItsOwnCount);
        sentence("the count: an instruction that ends the run was executed", HookBoundaryTest::endingInstructionsCount);
        sentence("hooks change nothing else", HookBoundaryTest::hooksChangeNothingElse);
    }

    private static void fitTests() {
        sentence("the head: whole instructions that have 3 bytes or more", HookBoundaryTest::headsAtTheEndOfTheCode);
        sentence("the head: as few instructions as that", HookBoundaryTest::headsAreAsFewInstructionsAsWillDo);
        sentence("only if an instruction begins there", HookBoundaryTest::noInstructionBegins);
        sentence("only if the code has at least 3 bytes from a on", HookBoundaryTest::fewerThan3BytesFromAOn);
        sentence("only if no byte is in common with a hooked head", HookBoundaryTest::noByteInCommon);
        sentence("only if no byte is in common, also the last", HookBoundaryTest::longHeadsMeetLaterOnes);
        sentence("only if no byte is in common with any hooked head", HookBoundaryTest::anyOfTheHookedHeads);
        sentence("only if no target is a byte other than the first", HookBoundaryTest::targetInsideTheHead);
        sentence("a target may be the first byte or outside the head", HookBoundaryTest::targetOutsideTheHead);
        sentence("a target anywhere in the code, also in the head", HookBoundaryTest::targetFromTheHeadItself);
        sentence("a target anywhere in the code, also at its ends", HookBoundaryTest::targetFromAnywhere);
        sentence("a target is the next address plus T", HookBoundaryTest::everyTarget);
        sentence("only a target of the kinds 4, 5 and 6", HookBoundaryTest::onlyTheKinds4To6);
        sentence("at most 4 addresses are hooked", HookBoundaryTest::atMost4);
        sentence("while an address is hooked, no instruction can be appended",
            HookBoundaryTest::noInstructionWhileHooked);
    }

    private static void promiseTests() {
        sentence("promise 16: a not 0 to 63 answers BAD_ARG, tested first", HookBoundaryTest::hookArguments);
        sentence("promise 16: a is hooked already answers HOOKED", HookBoundaryTest::hookedAlready);
        sentence("promise 16: HOOKED is tested before FULL", HookBoundaryTest::hookedBeforeFull);
        sentence("promise 16: FULL is tested before UNFIT", HookBoundaryTest::fullBeforeUnfit);
        sentence("promise 16: otherwise the number of bytes of the head", HookBoundaryTest::hookAnswersTheHead);
        sentence("promise 17: a not 0 to 63 answers BAD_ARG", HookBoundaryTest::unhookArguments);
        sentence("promise 17: a is not hooked answers HOOKED", HookBoundaryTest::unhookOfNoHook);
        sentence("promise 17: otherwise its count", HookBoundaryTest::unhookAnswersItsCount);
        sentence("promise 18: BAD_ARG if a is not 0 to 63", HookBoundaryTest::callsArguments);
        sentence("promise 18: HOOKED if a is not hooked", HookBoundaryTest::callsOfNoHook);
        sentence("promise 18: the count of the hooked address a", HookBoundaryTest::callsAnswersTheCount);
        sentence("promise 19: how many addresses are hooked", HookBoundaryTest::hooksFrom0To4);
    }

    public static void main(String[] args) {
        countTests();
        fitTests();
        promiseTests();
        end();
    }
}
