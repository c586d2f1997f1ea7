/** 'What it is': an object is used for at most 512 calls, and answers the last of them as well as the first. */
public final class LifeTest extends Checks {
    private static final int CALLS = 512;

    /** As high as a count can get: 200 in each run. */
    private static void countsToTheEnd() {
        DetourHooker x = new DetourHooker();
        due("jump(-2)", x.jump(-2), 0);
        due("halt()", x.halt(), 2);
        due("hook(0)", x.hook(0), 3);
        int runs = CALLS - 4;
        for (int i = 0; i < runs; i++) due("run(0)", x.run(0), TIRED);
        due("unhook(0), the last call", x.unhook(0), 200 * runs);
    }

    private static void registersToTheEnd() {
        DetourHooker x = new DetourHooker();
        x.inc(2);
        x.jump(-4);
        int runs = CALLS - 3;
        for (int i = 0; i < runs; i++) due("run(0)", x.run(0), TIRED);
        due("register(2), the last call", x.register(2), 100 * runs);
    }

    private static void returnStackToTheEnd() {
        DetourHooker x = new DetourHooker();
        x.call(-2);
        for (int i = 1; i < CALLS - 1; i++) due("run(0)", x.run(0), OVERFLOW);
        due("executed(), the last call", x.executed(), 9);
    }

    private static void appendingToTheEnd() {
        DetourHooker x = new DetourHooker();
        for (int i = 0; i < CALLS; i++) due("halt() as call " + (i + 1), x.halt(), i < 64 ? i : FULL);
    }

    private static void clearingToTheEnd() {
        DetourHooker x = new DetourHooker();
        for (int i = 0; i < CALLS / 4; i++) {
            due("branch(3, -128)", x.branch(3, -128), 0);
            due("giveBack()", x.giveBack(), 3);
            due("clear()", x.clear(), 4);
            due("length()", x.length(), 0);
        }
    }

    private static void hookingToTheEnd() {
        DetourHooker x = halts(64);
        int places = 62;
        int made = 64;
        for (int i = 0; made + 4 <= CALLS; i++) {
            int a = 7 * i % places;
            due("hook(" + a + ")", x.hook(a), 3);
            due("run(" + a + ")", x.run(a), HALTED);
            due("unhook(" + a + ")", x.unhook(a), 1);
            due("hooks()", x.hooks(), 0);
            made += 4;
        }
        due("the calls made", made, CALLS);
    }

    private static void refusingToTheEnd() {
        DetourHooker x = hookedHalts(3, 0);
        for (int i = 4; i < CALLS - 4; i += 4) {
            due("halt()", x.halt(), HOOKED);
            due("clear()", x.clear(), HOOKED);
            due("hook(1)", x.hook(1), UNFIT);
            due("run(64)", x.run(64), BAD_ARG);
        }
        due("ending()", x.ending(), NO_RUN);
        due("hooks()", x.hooks(), 1);
        due("calls(0)", x.calls(0), 0);
        due("length(), the last call", x.length(), 3);
    }

    /** The example of README.md, line by line. */
    private static void example() {
        DetourHooker x = new DetourHooker();
        due("call(1)", x.call(1), 0);
        due("halt()", x.halt(), 2);
        int f = x.inc(0);
        due("inc(0)", f, 3);
        due("where(1)", x.where(1), 5);
        due("giveBack()", x.giveBack(), 7);
        due("hook(f)", x.hook(f), 4);
        due("run(0)", x.run(0), HALTED);
        due("calls(f)", x.calls(f), 1);
        due("register(0)", x.register(0), 1);
        due("register(1)", x.register(1), 7);
        due("executed()", x.executed(), 5);
        due("halt() while f is hooked", x.halt(), HOOKED);
        due("unhook(f)", x.unhook(f), 1);
        due("clear()", x.clear(), 8);
    }

    public static void main(String[] args) {
        String words = "an object is used for at most 512 calls, ";
        sentence(words + "and counts up to the last", LifeTest::countsToTheEnd);
        sentence(words + "and its registers hold up to the last", LifeTest::registersToTheEnd);
        sentence(words + "and each run's return stack is empty up to the last", LifeTest::returnStackToTheEnd);
        sentence(words + "all of them appending", LifeTest::appendingToTheEnd);
        sentence(words + "many of them clearing", LifeTest::clearingToTheEnd);
        sentence(words + "many of them hooking", LifeTest::hookingToTheEnd);
        sentence(words + "many of them refused", LifeTest::refusingToTheEnd);
        sentence("the example of README.md", LifeTest::example);
        end();
    }
}
