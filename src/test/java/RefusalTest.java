import java.util.ArrayList;
import java.util.List;

/** The last of the 'Terms': no call ever throws, and a refused call changes nothing. */
public final class RefusalTest extends Checks {
    private static final int[] ARGUMENTS = {
        LEAST, LEAST + 1, -257, -256, -129, -128, -65, -64, -4, -1, 0, 1, 2, 3, 4, 5, 8, 61, 62, 63, 64, 65, 127, 128,
        255, 256, GREATEST - 1, GREATEST};
    private static final int[] FEW_ARGUMENTS = {LEAST, -129, -128, -1, 0, 3, 4, 127, 128, GREATEST};

    private record Named(String name, Call call) {
    }

    private record State(String name, Maker maker) {
    }

    /** At 0 a loop that calls the function at 8, at 6 a return, at 7 a halt; three more halts at the end. */
    private static DetourHooker program() {
        DetourHooker x = new DetourHooker();
        x.inc(0);
        x.call(4);
        x.jump(-6);
        x.giveBack();
        x.halt();
        x.where(1);
        x.giveBack();
        for (int i = 0; i < 3; i++) x.halt();
        for (int r = 0; r < 4; r++) x.setRegister(r, 10 * r - 15);
        return x;
    }

    private static DetourHooker branches() {
        DetourHooker x = new DetourHooker();
        for (int i = 0; i < 21; i++) x.branch(0, 127);
        x.halt();
        return x;
    }

    private static DetourHooker ran(DetourHooker x, int... starts) {
        for (int a : starts) x.run(a);
        return x;
    }

    private static DetourHooker hookedProgram() {
        DetourHooker x = program();
        x.hook(8);
        x.hook(11);
        return ran(x, 0, 11);
    }

    private static List<State> states() {
        return List.of(
            new State("a new object", () -> halts(0)),
            new State("two bytes", () -> halts(2)),
            new State("three bytes", () -> halts(3)),
            new State("room for three bytes", () -> halts(61)),
            new State("room for two bytes", () -> halts(62)),
            new State("room for one byte", () -> halts(63)),
            new State("full code", () -> halts(64)),
            new State("full code, all branches", RefusalTest::branches),
            new State("one hook", () -> hookedHalts(3, 0)),
            new State("one hook in full code", () -> hookedHalts(64, 61)),
            new State("four hooks", () -> ran(hookedHalts(20, 0, 3, 6, 9), 0, 3, 3, 9)),
            new State("a program", RefusalTest::program),
            new State("a program that ran", () -> ran(program(), 0)),
            new State("a hooked program that ran", RefusalTest::hookedProgram),
            new State("a run that overflowed", () -> {
                DetourHooker x = new DetourHooker();
                x.call(-2);
                x.halt();
                return ran(x, 0);
            }),
            new State("code that was cleared", () -> {
                DetourHooker x = ran(program(), 0, 1, 7);
                x.clear();
                return x;
            }));
    }

    private static List<Named> writingCalls() {
        List<Named> calls = new ArrayList<>();
        calls.add(new Named("halt()", x -> x.halt()));
        calls.add(new Named("giveBack()", x -> x.giveBack()));
        calls.add(new Named("clear()", x -> x.clear()));
        for (int v : ARGUMENTS) {
            calls.add(new Named("inc(" + v + ")", x -> x.inc(v)));
            calls.add(new Named("dec(" + v + ")", x -> x.dec(v)));
            calls.add(new Named("jump(" + v + ")", x -> x.jump(v)));
            calls.add(new Named("call(" + v + ")", x -> x.call(v)));
            calls.add(new Named("where(" + v + ")", x -> x.where(v)));
            calls.add(new Named("hook(" + v + ")", x -> x.hook(v)));
            calls.add(new Named("unhook(" + v + ")", x -> x.unhook(v)));
            calls.add(new Named("run(" + v + ")", x -> x.run(v)));
        }
        for (int v : FEW_ARGUMENTS) {
            for (int w : FEW_ARGUMENTS) {
                calls.add(new Named("move(" + v + ", " + w + ")", x -> x.move(v, w)));
                calls.add(new Named("branch(" + v + ", " + w + ")", x -> x.branch(v, w)));
                calls.add(new Named("setRegister(" + v + ", " + w + ")", x -> x.setRegister(v, w)));
            }
        }
        return calls;
    }

    private static List<Named> readingCalls() {
        List<Named> calls = new ArrayList<>();
        calls.add(new Named("length()", x -> x.length()));
        calls.add(new Named("hooks()", x -> x.hooks()));
        calls.add(new Named("ending()", x -> x.ending()));
        calls.add(new Named("executed()", x -> x.executed()));
        for (int v : ARGUMENTS) {
            calls.add(new Named("peek(" + v + ")", x -> x.peek(v)));
            calls.add(new Named("register(" + v + ")", x -> x.register(v)));
            calls.add(new Named("calls(" + v + ")", x -> x.calls(v)));
        }
        return calls;
    }

    /** Twice, as a call may leave behind what makes the next one throw. */
    private static void neverThrows(State state) {
        List<Named> calls = writingCalls();
        calls.addAll(readingCalls());
        for (Named n : calls) {
            try {
                DetourHooker x = state.maker.make();
                n.call.on(x);
                n.call.on(x);
                stateOf(x);
            } catch (RuntimeException | StackOverflowError thrown) {
                tell(n.name + " threw " + thrown);
            }
        }
    }

    /** All that is refused is told by a negative code, and nothing else is. */
    private static void refusalsChangeNothing(State state) {
        int codes = 0;
        for (Named n : writingCalls()) {
            int answer = n.call.on(state.maker.make());
            if (answer >= 0) continue;
            codes++;
            if (answer < UNFIT) tell(n.name + " answered " + answer + ", which is no code");
            changesNothing(n.name, state.maker, n.call);
        }
        due("whether any call was refused", codes > 0 ? 1 : 0, 1);
    }

    private static void readingChangesNothing(State state) {
        for (Named n : readingCalls()) changesNothing(n.name, state.maker, n.call);
    }

    public static void main(String[] args) {
        for (State state : states()) {
            sentence("no call ever throws, with " + state.name, () -> neverThrows(state));
            sentence("a refused call changes nothing, with " + state.name, () -> refusalsChangeNothing(state));
            sentence("a call that reads changes nothing, with " + state.name, () -> readingChangesNothing(state));
        }
        end();
    }
}
