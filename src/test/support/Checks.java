/** What the tests of this project share: each of them is a class that extends this one. */
class Checks {
    // Written out once more, so that a wrong constant in the class can't make a wrong answer right.
    static final int BAD_ARG = -1;
    static final int FULL = -2;
    static final int HOOKED = -3;
    static final int UNFIT = -4;
    static final int NO_RUN = 0;
    static final int HALTED = 1;
    static final int BAD_CODE = 2;
    static final int OVERFLOW = 3;
    static final int TIRED = 4;
    static final int LEAST = Integer.MIN_VALUE;
    static final int GREATEST = Integer.MAX_VALUE;
    static final int[] NO_REGISTERS = {-1, 4, 5, 64, 256, LEAST, GREATEST};
    static final int[] NO_TARGETS = {-129, 128, 255, 256, -256, LEAST, GREATEST};
    static final int[] NO_ADDRESSES = {-1, 64, 65, 128, LEAST, GREATEST};

    private static int wrong = 0;
    private static String subject = "";

    interface Call {
        int on(DetourHooker x);
    }

    interface Maker {
        DetourHooker make();
    }

    private interface Sequel {
        String of(DetourHooker x);
    }

    static void about(String words) {
        subject = words;
    }

    /** A sentence of the document with its own test; a call that throws is a wrong answer too. */
    static void sentence(String words, Runnable test) {
        about(words);
        try {
            test.run();
        } catch (RuntimeException | StackOverflowError thrown) {
            tell("a call threw " + thrown);
        }
    }

    static void tell(String fault) {
        wrong++;
        System.out.println(subject + ": " + fault);
    }

    static void end() {
        System.out.println(wrong == 0 ? "all answers are as due" : wrong + " answers are not as due");
        if (wrong != 0) System.exit(1);
    }

    static void due(String call, long got, long want) {
        if (got != want) tell(call + " answered " + got + ", due is " + want);
    }

    static void dueText(String what, String got, String want) {
        if (!got.equals(want)) tell(what + " is " + got + ", due is " + want);
    }

    static void dueBytes(DetourHooker x, int from, int... bytes) {
        for (int i = 0; i < bytes.length; i++) due("peek(" + (from + i) + ")", x.peek(from + i), bytes[i]);
        due("length()", x.length(), from + bytes.length);
    }

    static void dueRun(DetourHooker x, int a, int ending, int executed) {
        due("run(" + a + ")", x.run(a), ending);
        due("ending()", x.ending(), ending);
        due("executed()", x.executed(), executed);
    }

    static void dueRegisters(DetourHooker x, int... values) {
        for (int r = 0; r < 4; r++) due("register(" + r + ")", x.register(r), values[r]);
    }

    /** All that can be read of the object; at most 140 of its 512 calls. */
    static String stateOf(DetourHooker x) {
        StringBuilder text = new StringBuilder();
        int length = x.length();
        text.append("code");
        for (int i = 0; i < length; i++) text.append(' ').append(x.peek(i));
        text.append(" registers");
        for (int r = 0; r < 4; r++) text.append(' ').append(x.register(r));
        text.append(" hooks ").append(x.hooks()).append(':');
        for (int a = 0; a < 64; a++) {
            int count = x.calls(a);
            if (count != HOOKED) text.append(' ').append(a).append('=').append(count);
        }
        text.append(" ending ").append(x.ending()).append(" executed ").append(x.executed());
        return text.toString();
    }

    static DetourHooker halts(int n) {
        DetourHooker x = new DetourHooker();
        for (int i = 0; i < n; i++) x.halt();
        return x;
    }

    /** halts(n) with these addresses hooked. */
    static DetourHooker hookedHalts(int n, int... addresses) {
        DetourHooker x = halts(n);
        for (int a : addresses) x.hook(a);
        return x;
    }

    /** Appends instructions of these sizes; none has a target inside the code. */
    static void appendSizes(DetourHooker x, int... sizes) {
        for (int size : sizes) {
            if (size == 1) x.halt();
            if (size == 2) x.inc(0);
            if (size == 3) x.branch(0, 127);
        }
    }

    static DetourHooker codeOf(int... sizes) {
        DetourHooker x = new DetourHooker();
        appendSizes(x, sizes);
        return x;
    }

    /** Appends kind 4, 5 (by register 1) or 6 so that its target is this address. */
    static int appendTo(DetourHooker x, int kind, int address) {
        int next = x.length() + (kind == 5 ? 3 : 2);
        if (kind == 4) return x.jump(address - next);
        if (kind == 5) return x.branch(1, address - next);
        return x.call(address - next);
    }

    /** Code that, run from 0, has executed n instructions, 2 or more, when it gets to what is appended next. */
    static DetourHooker after(int n) {
        DetourHooker x = new DetourHooker();
        if (n % 2 == 1) x.inc(3);
        x.dec(0);
        x.branch(0, -5);
        x.setRegister(0, n / 2);
        return x;
    }

    private static String runsThen(DetourHooker x) {
        StringBuilder text = new StringBuilder("runs");
        for (int a = 0; a < 64; a++) text.append(' ').append(x.run(a)).append('/').append(x.executed());
        return text + "; " + stateOf(x);
    }

    private static String hooksThen(DetourHooker x) {
        StringBuilder text = new StringBuilder("hooks");
        for (int a = 0; a < 64; a++) {
            int size = x.hook(a);
            text.append(' ').append(size);
            if (size > 0) text.append('/').append(x.unhook(a));
        }
        return text + "; " + stateOf(x);
    }

    private static String appendsThen(DetourHooker x) {
        StringBuilder text = new StringBuilder("unhooks");
        for (int a = 0; a < 64; a++) text.append(' ').append(x.unhook(a));
        text.append("; halts");
        for (int i = 0; i < 65; i++) text.append(' ').append(x.halt());
        text.append("; ").append(stateOf(x)).append("; clear ").append(x.clear());
        return text.append("; halt ").append(x.halt()).toString();
    }

    /** After the call nothing that a later call shows tells the object from one on which it was never made. */
    static void changesNothing(String name, Maker maker, Call call) {
        Sequel[] sequels = {Checks::stateOf, Checks::runsThen, Checks::hooksThen, Checks::appendsThen};
        for (Sequel sequel : sequels) {
            DetourHooker x = maker.make();
            DetourHooker twin = maker.make();
            call.on(x);
            dueText("what follows " + name, sequel.of(x), sequel.of(twin));
        }
    }

    static void refused(String name, Maker maker, Call call, int answer) {
        due(name, call.on(maker.make()), answer);
        changesNothing(name, maker, call);
    }
}
