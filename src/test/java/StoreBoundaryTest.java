/** Promises 1 and 11 to 15: the new object, the code bytes that can be read, clear and the registers. */
public final class StoreBoundaryTest extends Checks {
    private static void newObjectIsEmpty() {
        dueText("a new object", stateOf(new DetourHooker()), "code registers 0 0 0 0 hooks 0: ending 0 executed 0");
        DetourHooker x = new DetourHooker();
        due("clear()", x.clear(), 0);
        for (int a = 0; a < 64; a++) due("unhook(" + a + ")", x.unhook(a), HOOKED);
        for (int a = 0; a < 64; a++) due("hook(" + a + ")", x.hook(a), UNFIT);
        for (int a = 0; a < 64; a++) due("run(" + a + ")", x.run(a), BAD_CODE);
        due("halt()", x.halt(), 0);
    }

    private static void newObjectSharesNothing() {
        DetourHooker used = hookedHalts(3, 0);
        for (int r = 0; r < 4; r++) used.setRegister(r, 7);
        used.run(0);
        newObjectIsEmpty();
        dueText("the used object", stateOf(used), "code 0 0 0 registers 7 7 7 7 hooks 1: 0=1 ending 1 executed 1");
    }

    private static void lengthFromNoneToFull() {
        DetourHooker x = new DetourHooker();
        for (int n = 0; n < 64; n++) {
            due("length()", x.length(), n);
            x.halt();
        }
        due("length() of full code", x.length(), 64);
        x.halt();
        due("length() after FULL", x.length(), 64);
    }

    private static void lengthOfEachSize() {
        due("length() of 1 byte", codeOf(1).length(), 1);
        due("length() of 2 bytes", codeOf(2).length(), 2);
        due("length() of 3 bytes", codeOf(3).length(), 3);
        DetourHooker x = new DetourHooker();
        for (int i = 0; i < 21; i++) x.branch(3, -128);
        due("length() of 21 branches", x.length(), 63);
        x.branch(3, -128);
        due("length() after FULL", x.length(), 63);
    }

    private static void lengthUnderHooks() {
        DetourHooker x = hookedHalts(12, 0, 3, 6, 9);
        due("length() with four hooks", x.length(), 12);
        x.run(0);
        x.clear();
        due("length() after HOOKED", x.length(), 12);
    }

    private static void peekInsideTheCode() {
        for (int n = 1; n <= 64; n++) {
            DetourHooker x = halts(n - 1);
            x.giveBack();
            due("peek(L - 1) at L " + n, x.peek(n - 1), 7);
            due("peek(0) at L " + n, x.peek(0), n == 1 ? 7 : 0);
        }
    }

    private static void peekOutsideTheCode() {
        for (int n = 0; n <= 64; n++) {
            int length = n;
            int[] outside = {-1, n, n + 1, 64, 65, LEAST, GREATEST};
            for (int a : outside) refused("peek(" + a + ") at L " + n, () -> halts(length), x -> x.peek(a), BAD_ARG);
        }
    }

    private static void peekAfterClear() {
        DetourHooker x = new DetourHooker();
        for (int i = 0; i < 32; i++) x.jump(-1);
        x.clear();
        for (int a = 0; a < 64; a++) due("peek(" + a + ") after clear", x.peek(a), BAD_ARG);
        x.halt();
        due("peek(0) of new code", x.peek(0), 0);
        due("peek(1) behind new code", x.peek(1), BAD_ARG);
    }

    private static void hooksDontShow() {
        int[] bytes = {1, 3, 3, 15, 5, 2, 255, 8, 1, 2, 0, 6, 128, 4, 127, 7};
        DetourHooker x = new DetourHooker();
        x.inc(3);
        x.move(3, 3);
        x.branch(2, -1);
        x.where(1);
        x.dec(0);
        x.call(-128);
        x.jump(127);
        x.giveBack();
        dueBytes(x, 0, bytes);
        due("hook(0)", x.hook(0), 4);
        due("hook(7)", x.hook(7), 4);
        due("hook(13)", x.hook(13), 3);
        dueBytes(x, 0, bytes);
        x.run(0);
        dueBytes(x, 0, bytes);
        x.unhook(0);
        dueBytes(x, 0, bytes);
    }

    private static void clearAnswersTheBytes() {
        for (int n = 0; n <= 64; n++) {
            DetourHooker x = halts(n);
            due("clear() of " + n, x.clear(), n);
            due("length()", x.length(), 0);
            due("clear() again", x.clear(), 0);
            due("halt()", x.halt(), 0);
        }
        due("clear() of 3 bytes in one instruction", codeOf(3).clear(), 3);
    }

    private static void clearRemovesAllCode() {
        DetourHooker x = new DetourHooker();
        for (int i = 0; i < 32; i++) x.jump(0);
        x.clear();
        for (int a = 0; a < 64; a++) dueRun(x, a, BAD_CODE, 0);
        for (int a = 0; a < 64; a++) due("hook(" + a + ") after clear", x.hook(a), UNFIT);
    }

    private static void clearForgetsWhereInstructionsBegan() {
        DetourHooker x = halts(64);
        x.clear();
        for (int i = 0; i < 21; i++) x.branch(0, 127);
        for (int a = 0; a < 64; a++) {
            boolean first = a % 3 == 0 && a < 63;
            dueRun(x, a, BAD_CODE, first ? 21 - a / 3 : 0);
        }
        due("hook(61)", x.hook(61), UNFIT);
    }

    private static void clearForgetsTargets() {
        for (int kind = 4; kind <= 6; kind++) {
            DetourHooker x = halts(3);
            appendTo(x, kind, 1);
            due("hook(0)", x.hook(0), UNFIT);
            x.clear();
            for (int i = 0; i < 3; i++) x.halt();
            due("hook(0) after clear", x.hook(0), 3);
        }
    }

    private static void clearUnderAHook() {
        refused("clear() with one hook", () -> hookedHalts(3, 0), x -> x.clear(), HOOKED);
        refused("clear() with a hook in full code", () -> hookedHalts(64, 61), x -> x.clear(), HOOKED);
        refused("clear() with four hooks", () -> hookedHalts(12, 0, 3, 6, 9), x -> x.clear(), HOOKED);
        DetourHooker x = hookedHalts(6, 0, 3);
        x.unhook(3);
        due("clear() with one hook of two left", x.clear(), HOOKED);
        x.unhook(0);
        due("clear() with no hook left", x.clear(), 6);
    }

    private static void registersStayAfterClear() {
        DetourHooker x = halts(1);
        int[] values = {LEAST, -1, 1, GREATEST};
        for (int r = 0; r < 4; r++) x.setRegister(r, values[r]);
        x.clear();
        dueRegisters(x, values);
    }

    private static void setsTheRegistersThereAre() {
        int[] values = {LEAST, LEAST + 1, -1, 0, 1, GREATEST - 1, GREATEST};
        for (int r = 0; r < 4; r++) {
            for (int v : values) {
                DetourHooker x = new DetourHooker();
                for (int s = 0; s < 4; s++) x.setRegister(s, 40 + s);
                due("setRegister(" + r + ", " + v + ")", x.setRegister(r, v), 0);
                for (int s = 0; s < 4; s++) due("register(" + s + ")", x.register(s), s == r ? v : 40 + s);
            }
        }
    }

    private static DetourHooker fullRegisters() {
        DetourHooker x = hookedHalts(6, 0);
        for (int r = 0; r < 4; r++) x.setRegister(r, -5 - r);
        x.run(0);
        return x;
    }

    private static void setsNoOtherRegister() {
        for (int r : NO_REGISTERS) {
            refused("setRegister(" + r + ", 9)", StoreBoundaryTest::fullRegisters, x -> x.setRegister(r, 9), BAD_ARG);
            refused("setRegister(" + r + ", 0)", StoreBoundaryTest::fullRegisters, x -> x.setRegister(r, 0), BAD_ARG);
        }
    }

    private static void readsTheRegistersThereAre() {
        dueRegisters(fullRegisters(), -5, -6, -7, -8);
        dueRegisters(new DetourHooker(), 0, 0, 0, 0);
    }

    private static void readsNoOtherRegister() {
        for (int r : NO_REGISTERS) {
            refused("register(" + r + ")", StoreBoundaryTest::fullRegisters, x -> x.register(r), 0);
        }
    }

    public static void main(String[] args) {
        sentence("promise 1: no code, all registers 0, nothing is hooked, no run yet",
            StoreBoundaryTest::newObjectIsEmpty);
        sentence("promise 1: also beside a used object", StoreBoundaryTest::newObjectSharesNothing);
        sentence("promise 11: L, from no code to full code", StoreBoundaryTest::lengthFromNoneToFull);
        sentence("promise 11: the number of code bytes, not of instructions", StoreBoundaryTest::lengthOfEachSize);
        sentence("promise 11: L with hooks", StoreBoundaryTest::lengthUnderHooks);
        sentence("promise 12: x from 0 to L - 1", StoreBoundaryTest::peekInsideTheCode);
        sentence("promise 12: BAD_ARG if x is not 0 to L - 1", StoreBoundaryTest::peekOutsideTheCode);
        sentence("promise 12: no code after clear", StoreBoundaryTest::peekAfterClear);
        sentence("promise 12: hooks don't show", StoreBoundaryTest::hooksDontShow);
        sentence("promise 13: the number of bytes removed", StoreBoundaryTest::clearAnswersTheBytes);
        sentence("promise 13: removes all code", StoreBoundaryTest::clearRemovesAllCode);
        sentence("promise 13: also where instructions began", StoreBoundaryTest::clearForgetsWhereInstructionsBegan);
        sentence("promise 13: also what stood in a hook's way", StoreBoundaryTest::clearForgetsTargets);
        sentence("promise 13: HOOKED if an address is hooked", StoreBoundaryTest::clearUnderAHook);
        sentence("promise 13: registers stay", StoreBoundaryTest::registersStayAfterClear);
        sentence("promise 14: register r becomes v, otherwise 0", StoreBoundaryTest::setsTheRegistersThereAre);
        sentence("promise 14: BAD_ARG if r is not 0 to 3", StoreBoundaryTest::setsNoOtherRegister);
        sentence("promise 15: register r", StoreBoundaryTest::readsTheRegistersThereAre);
        sentence("promise 15: 0 if r is not 0 to 3", StoreBoundaryTest::readsNoOtherRegister);
        end();
    }
}
