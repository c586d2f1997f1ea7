/** 'Terms', RUN, and promises 20 to 22: where a run starts and each way in which it ends. */
public final class RunBoundaryTest extends Checks {
    /** At 0 calls itself, at 2 a return, at 3 a call to the halt at 6, at 5 a halt. */
    private static DetourHooker deep() {
        DetourHooker x = new DetourHooker();
        x.call(-2);
        x.giveBack();
        x.call(1);
        x.halt();
        x.halt();
        return x;
    }

    private static void emptyStackAfterAnOverflow() {
        DetourHooker x = deep();
        dueRun(x, 0, OVERFLOW, 9);
        dueRun(x, 2, HALTED, 1);
        dueRun(x, 0, OVERFLOW, 9);
        dueRun(x, 0, OVERFLOW, 9);
    }

    private static void emptyStackAfterAHalt() {
        DetourHooker x = deep();
        for (int i = 0; i < 9; i++) dueRun(x, 3, HALTED, 2);
        dueRun(x, 2, HALTED, 1);
        dueRun(x, 0, OVERFLOW, 9);
    }

    private static void emptyStackAfterBadCode() {
        DetourHooker x = new DetourHooker();
        x.call(127);
        x.giveBack();
        for (int i = 0; i < 9; i++) dueRun(x, 0, BAD_CODE, 1);
        dueRun(x, 2, HALTED, 1);
    }

    private static void emptyStackAfterTired() {
        DetourHooker x = new DetourHooker();
        x.call(0);
        x.jump(-2);
        x.giveBack();
        for (int i = 0; i < 9; i++) dueRun(x, 0, TIRED, 200);
        dueRun(x, 4, HALTED, 1);
    }

    private static void registersAsTheyAre() {
        DetourHooker x = new DetourHooker();
        x.inc(0);
        x.dec(1);
        x.halt();
        int[] values = {GREATEST - 1, LEAST + 1, -7, 7};
        for (int r = 0; r < 4; r++) x.setRegister(r, values[r]);
        dueRun(x, 0, HALTED, 3);
        dueRegisters(x, GREATEST, LEAST, -7, 7);
        dueRun(x, 0, HALTED, 3);
        dueRegisters(x, LEAST, GREATEST, -7, 7);
    }

    private static void registersFromRunToRun() {
        DetourHooker x = new DetourHooker();
        x.inc(0);
        x.jump(127);
        x.inc(1);
        x.jump(-4);
        x.inc(2);
        x.call(-4);
        for (int i = 1; i <= 3; i++) {
            dueRun(x, 0, BAD_CODE, 2);
            dueRun(x, 4, TIRED, 200);
            dueRun(x, 8, OVERFLOW, 18);
            dueRegisters(x, i, 100 * i, 9 * i, 0);
        }
    }

    private static void haltsAsThe200th() {
        for (int n = 197; n <= 202; n++) {
            DetourHooker x = after(n);
            x.halt();
            dueRun(x, 0, n < 200 ? HALTED : TIRED, Math.min(n + 1, 200));
        }
    }

    private static void returnsAsThe200th() {
        for (int n = 197; n <= 202; n++) {
            DetourHooker x = after(n);
            x.giveBack();
            dueRun(x, 0, n < 200 ? HALTED : TIRED, Math.min(n + 1, 200));
        }
    }

    private static void overflowsAsThe200th() {
        for (int n = 189; n <= 194; n++) {
            DetourHooker x = after(n);
            x.call(-2);
            dueRun(x, 0, n + 9 <= 200 ? OVERFLOW : TIRED, Math.min(n + 9, 200));
        }
    }

    private static void tiredIsTestedBeforeBadCode() {
        for (int n = 197; n <= 202; n++) {
            dueRun(after(n), 0, n < 200 ? BAD_CODE : TIRED, Math.min(n, 200));
        }
    }

    private static void tiredBeforeBadCodeAnywhere() {
        int[] targets = {-128, 1, 127};
        for (int t : targets) {
            for (int n = 197; n <= 201; n++) {
                DetourHooker x = after(n);
                x.jump(t);
                x.inc(1);
                dueRun(x, 0, n + 1 < 200 ? BAD_CODE : TIRED, Math.min(n + 1, 200));
            }
        }
    }

    /** The 201st would show in a register and in a count. */
    private static void noneAfterThe200th() {
        for (int n = 198; n <= 202; n++) {
            DetourHooker x = after(n);
            int last = x.inc(1);
            x.halt();
            due("hook of the inc", x.hook(last), 3);
            dueRun(x, 0, n + 2 <= 200 ? HALTED : TIRED, Math.min(n + 2, 200));
            due("register(1)", x.register(1), n < 200 ? 1 : 0);
            due("calls of the inc", x.calls(last), n < 200 ? 1 : 0);
        }
    }

    private static void every200AreOfOneRun() {
        DetourHooker x = after(150);
        x.halt();
        for (int i = 0; i < 4; i++) {
            x.setRegister(0, 75);
            dueRun(x, 0, HALTED, 151);
        }
        DetourHooker tired = new DetourHooker();
        tired.jump(-2);
        tired.halt();
        dueRun(tired, 0, TIRED, 200);
        dueRun(tired, 2, HALTED, 1);
        dueRun(tired, 0, TIRED, 200);
    }

    private static void noCode() {
        for (int a = 0; a < 64; a++) dueRun(new DetourHooker(), a, BAD_CODE, 0);
    }

    private static void startInsideAnInstruction() {
        DetourHooker x = codeOf(3, 2, 1);
        dueRun(x, 0, HALTED, 3);
        dueRun(x, 1, BAD_CODE, 0);
        dueRun(x, 2, BAD_CODE, 0);
        dueRun(x, 3, HALTED, 2);
        dueRun(x, 4, BAD_CODE, 0);
        dueRun(x, 5, HALTED, 1);
    }

    private static void startAtLOrMore() {
        for (int n = 1; n <= 64; n++) {
            DetourHooker x = halts(n);
            dueRun(x, n - 1, HALTED, 1);
            if (n < 64) dueRun(x, n, BAD_CODE, 0);
            if (n < 63) dueRun(x, n + 1, BAD_CODE, 0);
            if (n < 64) dueRun(x, 63, BAD_CODE, 0);
        }
    }

    /** A kind that goes to this address, with the register of a branch not 0. */
    private static DetourHooker going(int kind, int address) {
        DetourHooker x = halts(1);
        x.setRegister(1, 1);
        appendTo(x, kind, address);
        x.inc(0);
        return x;
    }

    private static void getsBelow0() {
        for (int kind = 4; kind <= 6; kind++) {
            dueRun(going(kind, 0), 1, HALTED, 2);
            int[] below = {-1, -2, -63, -64, -65};
            for (int a : below) dueRun(going(kind, a), 1, BAD_CODE, 1);
        }
    }

    private static void getsToLOrMore() {
        for (int kind = 4; kind <= 6; kind++) {
            int length = going(kind, 0).length();
            dueRun(going(kind, length - 2), 1, BAD_CODE, 2);
            int[] above = {length, length + 1, 62, 63, 64, 65, 127, 128};
            for (int a : above) dueRun(going(kind, a), 1, BAD_CODE, 1);
        }
    }

    private static void getsInsideAnInstruction() {
        for (int kind = 4; kind <= 6; kind++) {
            int length = going(kind, 0).length();
            dueRun(going(kind, 2), 1, BAD_CODE, 1);
            dueRun(going(kind, length - 1), 1, BAD_CODE, 1);
            if (kind == 5) dueRun(going(kind, 3), 1, BAD_CODE, 1);
        }
    }

    private static void fallsOffTheEnd() {
        dueRun(codeOf(2), 0, BAD_CODE, 1);
        dueRun(codeOf(3), 0, BAD_CODE, 1);
        DetourHooker full = halts(62);
        full.inc(3);
        dueRun(full, 62, BAD_CODE, 1);
        due("register(3)", full.register(3), 1);
        DetourHooker branch = halts(61);
        branch.branch(0, -64);
        dueRun(branch, 61, BAD_CODE, 1);
    }

    private static void endingInstructionsCount() {
        int[] values = {LEAST, -1, 1, GREATEST};
        Call[] endings = {x -> x.halt(), x -> x.giveBack(), x -> x.call(-2)};
        for (int i = 0; i < endings.length; i++) {
            DetourHooker x = new DetourHooker();
            endings[i].on(x);
            for (int r = 0; r < 4; r++) x.setRegister(r, values[r]);
            dueRun(x, 0, i == 2 ? OVERFLOW : HALTED, i == 2 ? 9 : 1);
            dueRegisters(x, values);
        }
    }

    private static void otherEndingsChangeNoRegister() {
        int[] values = {LEAST, -1, 1, GREATEST};
        DetourHooker x = new DetourHooker();
        x.jump(-2);
        x.jump(127);
        for (int r = 0; r < 4; r++) x.setRegister(r, values[r]);
        dueRun(x, 0, TIRED, 200);
        dueRun(x, 1, BAD_CODE, 0);
        dueRun(x, 2, BAD_CODE, 1);
        dueRegisters(x, values);
    }

    /** A run from 0 halts after three, from 5 gets tired, from 7 overflows, from 9 meets bad code. */
    private static DetourHooker allEndings() {
        DetourHooker x = new DetourHooker();
        x.inc(0);
        x.inc(0);
        x.halt();
        x.jump(-2);
        x.call(-2);
        x.hook(0);
        return x;
    }

    private static void addressesTaken() {
        DetourHooker x = halts(64);
        for (int a = 0; a < 64; a++) dueRun(x, a, HALTED, 1);
    }

    private static void addressesRefused() {
        int[] starts = {0, 5, 7, 9};
        for (int a : NO_ADDRESSES) {
            refused("run(" + a + ") of no code", () -> halts(0), x -> x.run(a), BAD_ARG);
            refused("run(" + a + ") of full code", () -> halts(64), x -> x.run(a), BAD_ARG);
            for (int start : starts) refused("run(" + a + ") after run(" + start + ")", () -> {
                DetourHooker x = allEndings();
                x.run(start);
                return x;
            }, x -> x.run(a), BAD_ARG);
        }
    }

    private static void eachEnding() {
        DetourHooker x = allEndings();
        due("run that halts", x.run(0), HALTED);
        due("run that gets tired", x.run(5), TIRED);
        due("run that overflows", x.run(7), OVERFLOW);
        due("run of bad code", x.run(9), BAD_CODE);
        due("run inside an instruction", x.run(1), BAD_CODE);
        due("run that halts at once", x.run(4), HALTED);
    }

    private static void lastEnding() {
        DetourHooker x = allEndings();
        int[] starts = {0, 5, 7, 9, 0, 9, 7, 5, 0, 7, 0};
        for (int a : starts) {
            int ended = x.run(a);
            int due = a == 0 ? HALTED : a == 5 ? TIRED : a == 7 ? OVERFLOW : BAD_CODE;
            due("run(" + a + ")", ended, due);
            due("ending() after run(" + a + ")", x.ending(), due);
            due("ending() once more", x.ending(), due);
        }
    }

    private static void lastExecuted() {
        DetourHooker x = allEndings();
        int[] starts = {0, 5, 7, 9, 0, 9, 7, 5, 0, 7, 0};
        for (int a : starts) {
            x.run(a);
            int due = a == 0 ? 3 : a == 5 ? 200 : a == 7 ? 9 : 0;
            due("executed() after run(" + a + ")", x.executed(), due);
            due("executed() once more", x.executed(), due);
        }
    }

    private static void noRunYet() {
        Call[] others = {
            x -> x.halt(), x -> x.inc(0), x -> x.jump(-2), x -> x.clear(), x -> x.setRegister(0, 5), x -> x.hook(0),
            x -> x.unhook(0), x -> x.run(-1), x -> x.run(64), x -> x.run(LEAST), x -> x.run(GREATEST)};
        for (int i = 0; i < others.length; i++) {
            DetourHooker x = halts(3);
            others[i].on(x);
            due("ending() without a run, after call " + i, x.ending(), NO_RUN);
            due("executed() without a run, after call " + i, x.executed(), 0);
        }
        due("ending() of a new object", new DetourHooker().ending(), NO_RUN);
        due("executed() of a new object", new DetourHooker().executed(), 0);
    }

    /** What isn't a run leaves the last run's ending and number as they were. */
    private static void onlyRunsChangeThem() {
        DetourHooker x = allEndings();
        x.run(7);
        x.unhook(0);
        x.hook(0);
        x.halt();
        x.clear();
        x.unhook(0);
        x.halt();
        x.setRegister(0, 1);
        x.clear();
        x.inc(0);
        x.run(64);
        due("ending()", x.ending(), OVERFLOW);
        due("executed()", x.executed(), 9);
    }

    private static void startTests() {
        String words = "a run starts with an empty return stack, ";
        sentence(words + "after an overflow", RunBoundaryTest::emptyStackAfterAnOverflow);
        sentence(words + "after a halt", RunBoundaryTest::emptyStackAfterAHalt);
        sentence(words + "after bad code", RunBoundaryTest::emptyStackAfterBadCode);
        sentence(words + "after a tired run", RunBoundaryTest::emptyStackAfterTired);
        sentence("a run starts with the registers as they are", RunBoundaryTest::registersAsTheyAre);
        sentence("a run starts with the registers as the last one left them", RunBoundaryTest::registersFromRunToRun);
    }

    private static void tiredTests() {
        String words = "if 200 instructions were executed in this run, it ends: TIRED, ";
        sentence(words + "but a halt as the 200th is executed", RunBoundaryTest::haltsAsThe200th);
        sentence(words + "but a return as the 200th is executed", RunBoundaryTest::returnsAsThe200th);
        sentence(words + "but a call as the 200th is executed", RunBoundaryTest::overflowsAsThe200th);
        sentence(words + "tested before bad code", RunBoundaryTest::tiredIsTestedBeforeBadCode);
        sentence(words + "tested before bad code wherever it is", RunBoundaryTest::tiredBeforeBadCodeAnywhere);
        sentence(words + "and the 201st is not executed", RunBoundaryTest::noneAfterThe200th);
        sentence(words + "in this run and no other", RunBoundaryTest::every200AreOfOneRun);
    }

    private static void badCodeTests() {
        String words = "if no instruction begins at the present address, it ends: BAD_CODE, ";
        sentence(words + "if there is no code", RunBoundaryTest::noCode);
        sentence(words + "at the start inside an instruction", RunBoundaryTest::startInsideAnInstruction);
        sentence(words + "at the start at L or more", RunBoundaryTest::startAtLOrMore);
        sentence(words + "also if it is below 0", RunBoundaryTest::getsBelow0);
        sentence(words + "also if it is L or more", RunBoundaryTest::getsToLOrMore);
        sentence(words + "inside an instruction", RunBoundaryTest::getsInsideAnInstruction);
        sentence(words + "behind the last instruction", RunBoundaryTest::fallsOffTheEnd);
    }

    private static void endingTests() {
        sentence("an instruction that ends the run counts as executed and changes no register",
            RunBoundaryTest::endingInstructionsCount);
        sentence("being tired and bad code execute nothing", RunBoundaryTest::otherEndingsChangeNoRegister);
        sentence("promise 20: a from 0 to 63", RunBoundaryTest::addressesTaken);
        sentence("promise 20: BAD_ARG if a is not 0 to 63", RunBoundaryTest::addressesRefused);
        sentence("promise 20: otherwise how the run ended", RunBoundaryTest::eachEnding);
        sentence("promise 21: how the last run ended", RunBoundaryTest::lastEnding);
        sentence("promise 22: how many instructions the last run executed", RunBoundaryTest::lastExecuted);
        sentence("promises 21 and 22: NO_RUN and 0 if there was none", RunBoundaryTest::noRunYet);
        sentence("promises 21 and 22: the last run, whatever came after it", RunBoundaryTest::onlyRunsChangeThem);
    }

    public static void main(String[] args) {
        startTests();
        tiredTests();
        badCodeTests();
        endingTests();
        end();
    }
}
