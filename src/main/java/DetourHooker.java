public final class DetourHooker {
    public static final int BAD_ARG = -1;
    public static final int FULL = -2;
    public static final int HOOKED = -3;
    public static final int UNFIT = -4;
    public static final int NO_RUN = 0;
    public static final int HALTED = 1;
    public static final int BAD_CODE = 2;
    public static final int OVERFLOW = 3;
    public static final int TIRED = 4;

    private static final int KIND_HALT = 0;
    private static final int KIND_INC = 1;
    private static final int KIND_DEC = 2;
    private static final int KIND_MOVE = 3;
    private static final int KIND_JUMP = 4;
    private static final int KIND_BRANCH = 5;
    private static final int KIND_CALL = 6;
    private static final int KIND_RETURN = 7;
    private static final int KIND_WHERE = 8;

    private static final int CODE_LIMIT = 64;
    private static final int REGISTER_LIMIT = 4;
    private static final int RETURN_LIMIT = 8;
    private static final int HOOK_LIMIT = 4;
    private static final int STEP_LIMIT = 200;
    private static final int HEAD_MINIMUM = 3;

    private final int[] code = new int[CODE_LIMIT];
    // A byte alone doesn't tell whether it is a kind or an operand.
    private final boolean[] begins = new boolean[CODE_LIMIT];
    private final int[] registers = new int[REGISTER_LIMIT];
    private final int[] returnStack = new int[RETURN_LIMIT];
    private final boolean[] hooked = new boolean[CODE_LIMIT];
    private final int[] counts = new int[CODE_LIMIT];

    private int codeLength;
    private int hookCount;
    private int returnDepth;
    private int present;
    private int lastEnding;
    private int lastExecuted;

    public DetourHooker() {
        codeLength = 0;
        hookCount = 0;
        returnDepth = 0;
        present = 0;
        lastEnding = NO_RUN;
        lastExecuted = 0;
    }

    public int halt() {
        return append(KIND_HALT, 0, 0);
    }

    public int inc(int r) {
        return appendWithRegister(KIND_INC, r);
    }

    public int dec(int r) {
        return appendWithRegister(KIND_DEC, r);
    }

    public int move(int r, int s) {
        if (!isRegister(r) || !isRegister(s)) {
            return BAD_ARG;
        }
        return append(KIND_MOVE, r + 4 * s, 0);
    }

    public int jump(int target) {
        return appendWithTarget(KIND_JUMP, target);
    }

    public int branch(int r, int target) {
        if (!isRegister(r) || !isRelativeTarget(target)) {
            return BAD_ARG;
        }
        return append(KIND_BRANCH, r, target & 255);
    }

    public int call(int target) {
        return appendWithTarget(KIND_CALL, target);
    }

    public int giveBack() {
        return append(KIND_RETURN, 0, 0);
    }

    public int where(int r) {
        return appendWithRegister(KIND_WHERE, r);
    }

    public int length() {
        return codeLength;
    }

    public int peek(int x) {
        if (!isAddress(x) || x >= codeLength) {
            return BAD_ARG;
        }
        return code[x];
    }

    public int clear() {
        if (hookCount > 0) {
            return HOOKED;
        }
        int removed = codeLength;
        for (int i = 0; i < CODE_LIMIT; i++) {
            code[i] = 0;
            begins[i] = false;
        }
        codeLength = 0;
        return removed;
    }

    public int setRegister(int r, int v) {
        if (!isRegister(r)) {
            return BAD_ARG;
        }
        registers[r] = v;
        return 0;
    }

    public int register(int r) {
        if (!isRegister(r)) {
            return 0;
        }
        return registers[r];
    }

    public int hook(int a) {
        if (!isAddress(a)) {
            return BAD_ARG;
        }
        if (hooked[a]) {
            return HOOKED;
        }
        if (hookCount >= HOOK_LIMIT) {
            return FULL;
        }
        int size = headSize(a);
        if (size == 0 || meetsHookedHead(a, size) || isEnteredInside(a, size)) {
            return UNFIT;
        }
        hooked[a] = true;
        counts[a] = 0;
        hookCount++;
        return size;
    }

    public int unhook(int a) {
        if (!isAddress(a)) {
            return BAD_ARG;
        }
        if (!hooked[a]) {
            return HOOKED;
        }
        hooked[a] = false;
        hookCount--;
        return counts[a];
    }

    public int calls(int a) {
        if (!isAddress(a)) {
            return BAD_ARG;
        }
        if (!hooked[a]) {
            return HOOKED;
        }
        return counts[a];
    }

    public int hooks() {
        return hookCount;
    }

    public int run(int a) {
        if (!isAddress(a)) {
            return BAD_ARG;
        }
        present = a;
        returnDepth = 0;
        lastExecuted = 0;
        int end = NO_RUN;
        for (int i = 0; i < STEP_LIMIT && end == NO_RUN; i++) {
            end = step();
        }
        // Being tired comes before bad code, so the address after the last step isn't looked at.
        lastEnding = end == NO_RUN ? TIRED : end;
        return lastEnding;
    }

    public int ending() {
        return lastEnding;
    }

    public int executed() {
        return lastExecuted;
    }

    private static boolean isAddress(int a) {
        return a >= 0 && a < CODE_LIMIT;
    }

    private static boolean isRegister(int r) {
        return r >= 0 && r < REGISTER_LIMIT;
    }

    private static boolean isRelativeTarget(int target) {
        return target >= -128 && target <= 127;
    }

    private static boolean hasTarget(int kind) {
        return kind == KIND_JUMP || kind == KIND_BRANCH || kind == KIND_CALL;
    }

    private static int sizeOf(int kind) {
        if (kind == KIND_HALT || kind == KIND_RETURN) {
            return 1;
        }
        return kind == KIND_BRANCH ? 3 : 2;
    }

    private int appendWithRegister(int kind, int r) {
        if (!isRegister(r)) {
            return BAD_ARG;
        }
        return append(kind, r, 0);
    }

    private int appendWithTarget(int kind, int target) {
        if (!isRelativeTarget(target)) {
            return BAD_ARG;
        }
        return append(kind, target & 255, 0);
    }

    private int append(int kind, int second, int third) {
        if (hookCount > 0) {
            return HOOKED;
        }
        int size = sizeOf(kind);
        int begin = codeLength;
        if (begin + size > CODE_LIMIT) {
            return FULL;
        }
        begins[begin] = true;
        code[begin] = kind;
        if (size > 1) {
            code[begin + 1] = second;
        }
        if (size > 2) {
            code[begin + 2] = third;
        }
        codeLength = begin + size;
        return begin;
    }

    private boolean beginsAt(int a) {
        return isAddress(a) && begins[a];
    }

    private int byteAt(int a) {
        return isAddress(a) ? code[a] : 0;
    }

    // 0 stands for an address without a head: nothing begins there, or too few bytes follow.
    private int headSize(int a) {
        int size = 0;
        // No instruction is empty, so as many instructions as bytes asked for are enough.
        for (int i = 0; i < HEAD_MINIMUM && size < HEAD_MINIMUM; i++) {
            if (!beginsAt(a + size)) {
                return 0;
            }
            int kind = byteAt(a + size);
            size += sizeOf(kind);
        }
        return size;
    }

    private boolean meetsHookedHead(int a, int size) {
        for (int b = 0; b < CODE_LIMIT; b++) {
            if (hooked[b] && a < b + headSize(b) && b < a + size) {
                return true;
            }
        }
        return false;
    }

    private boolean isEnteredInside(int a, int size) {
        for (int b = 0; b < CODE_LIMIT; b++) {
            if (begins[b] && hasTarget(code[b])) {
                int target = targetOf(b);
                if (target > a && target < a + size) {
                    return true;
                }
            }
        }
        return false;
    }

    // The answer may lie outside the code: only a run that gets there minds.
    private int targetOf(int a) {
        int kind = byteAt(a);
        int next = a + sizeOf(kind);
        int relative = byteAt(next - 1);
        return relative < 128 ? next + relative : next + relative - 256;
    }

    // NO_RUN stands for a run that goes on, as no run ends with it.
    private int step() {
        if (!beginsAt(present)) {
            return BAD_CODE;
        }
        lastExecuted++;
        if (hooked[present]) {
            counts[present]++;
        }
        int kind = code[present];
        if (kind == KIND_HALT) {
            return HALTED;
        }
        if (kind == KIND_CALL) {
            return enterFunction();
        }
        if (kind == KIND_RETURN) {
            return leaveFunction();
        }
        if (hasTarget(kind)) {
            follow(kind);
        } else {
            changeRegister(kind);
        }
        return NO_RUN;
    }

    private int enterFunction() {
        if (returnDepth >= RETURN_LIMIT) {
            return OVERFLOW;
        }
        returnStack[returnDepth] = present + sizeOf(KIND_CALL);
        returnDepth++;
        present = targetOf(present);
        return NO_RUN;
    }

    private int leaveFunction() {
        if (returnDepth <= 0) {
            return HALTED;
        }
        returnDepth--;
        present = returnStack[returnDepth];
        return NO_RUN;
    }

    private void follow(int kind) {
        // For a jump these two bits mean nothing, but they are a register's number all the same.
        int r = byteAt(present + 1) & 3;
        if (kind == KIND_BRANCH && registers[r] == 0) {
            present += sizeOf(KIND_BRANCH);
        } else {
            present = targetOf(present);
        }
    }

    private void changeRegister(int kind) {
        int operand = byteAt(present + 1);
        int next = present + sizeOf(kind);
        int r = operand & 3;
        if (kind == KIND_INC) {
            registers[r]++;
        } else if (kind == KIND_DEC) {
            registers[r]--;
        } else if (kind == KIND_MOVE) {
            registers[r] = registers[operand >> 2 & 3];
        } else {
            registers[r] = next;
        }
        present = next;
    }
}
