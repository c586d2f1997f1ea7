/** 'Terms', CODE: where instructions stand, what their bytes are, and what each kind does at its edges. */
public final class CodeBoundaryTest extends Checks {
    private static void oneAfterAnother() {
        DetourHooker x = new DetourHooker();
        int[] sizes = {1, 2, 2, 2, 2, 3, 2, 1, 2};
        int[] begins = {
            x.halt(), x.inc(0), x.dec(1), x.move(2, 3), x.jump(0), x.branch(1, 0), x.call(0), x.giveBack(), x.where(3)};
        int address = 0;
        for (int i = 0; i < sizes.length; i++) {
            due("the address of kind " + i, begins[i], address);
            due("its first byte", x.peek(address), i);
            address += sizes[i];
        }
        due("length()", x.length(), address);
        due("peek(L)", x.peek(address), BAD_ARG);
    }

    /** Every mix of sizes that could come to more than 64 is stopped there, and not before. */
    private static void atMost64() {
        for (int size = 1; size <= 3; size++) {
            DetourHooker x = new DetourHooker();
            int taken = 0;
            for (int i = 0; i < 70; i++) {
                int begin = size == 1 ? x.giveBack() : size == 2 ? x.where(0) : x.branch(0, 0);
                if (begin >= 0) taken++;
                due("instruction " + i + " of " + size + " bytes", begin, size * (i + 1) <= 64 ? size * i : FULL);
            }
            due("length()", x.length(), size * taken);
        }
    }

    private static void bytesFrom0To255() {
        DetourHooker x = new DetourHooker();
        x.halt();
        x.jump(-1);
        x.branch(0, -1);
        x.call(-1);
        x.jump(0);
        x.jump(127);
        x.jump(-128);
        x.move(0, 0);
        x.move(3, 3);
        x.move(3, 0);
        x.move(0, 3);
        dueBytes(x, 0, 0, 4, 255, 5, 0, 255, 6, 255, 4, 0, 4, 127, 4, 128, 3, 0, 3, 15, 3, 3, 3, 12);
    }

    private static void targetAsAByte() {
        for (int t = -128; t <= 127; t++) {
            int b = t < 0 ? t + 256 : t;
            DetourHooker x = new DetourHooker();
            x.jump(t);
            x.branch(3, t);
            x.call(t);
            dueBytes(x, 0, 4, b, 5, 3, b, 6, b);
        }
    }

    /** Operand bytes that look like halt, inc and so on are no instructions. */
    private static void beginsAtItsFirstByte() {
        DetourHooker x = new DetourHooker();
        x.branch(1, 7);
        x.inc(0);
        x.jump(0);
        x.halt();
        int[] begins = {0, 3, 5, 7};
        for (int a = 0; a < 64; a++) {
            boolean first = false;
            for (int b : begins) first |= a == b;
            due("run(" + a + ")", x.run(a), first ? HALTED : BAD_CODE);
            due("executed()", x.executed() > 0 ? 1 : 0, first ? 1 : 0);
        }
    }

    private static void nextAddressIsBehindTheLastByte() {
        for (int kind = 4; kind <= 6; kind++) {
            DetourHooker x = new DetourHooker();
            x.setRegister(1, 1);
            appendTo(x, kind, kind == 5 ? 3 : 2);
            due("its last byte with the target 0", x.peek(x.length() - 1), 0);
            x.inc(0);
            x.halt();
            dueRun(x, 0, HALTED, 3);
            due("register(0)", x.register(0), 1);
        }
        DetourHooker notTaken = codeOf(3);
        notTaken.halt();
        dueRun(notTaken, 0, HALTED, 2);
        for (int before = 0; before <= 62; before++) {
            DetourHooker x = halts(before);
            x.where(2);
            x.run(before);
            due("where at " + before, x.register(2), before + 2);
        }
    }

    /** From one end of the code to the other, and one address further. */
    private static void targetsReach() {
        for (int kind = 4; kind <= 6; kind++) {
            int size = kind == 5 ? 3 : 2;
            for (int target = -1; target <= 64; target++) {
                boolean inside = target >= 0 && target < 64;
                DetourHooker first = new DetourHooker();
                first.setRegister(1, 1);
                appendTo(first, kind, target);
                while (first.length() < 64) first.halt();
                if (target >= size) dueRun(first, 0, inside ? HALTED : BAD_CODE, inside ? 2 : 1);
                DetourHooker last = halts(64 - size);
                last.setRegister(1, 1);
                appendTo(last, kind, target);
                if (target < 64 - size) dueRun(last, 64 - size, inside ? HALTED : BAD_CODE, inside ? 2 : 1);
            }
        }
    }

    /** All code is halts, so a target that came round to it again would halt. */
    private static void targetsDontComeRound() {
        for (int kind = 4; kind <= 6; kind++) {
            int size = kind == 5 ? 3 : 2;
            for (int at = 0; at <= 64 - size; at++) {
                int[] far = {-128, 127};
                for (int t : far) {
                    DetourHooker x = halts(at);
                    x.setRegister(1, 1);
                    appendTo(x, kind, at + size + t);
                    due("the target byte", x.peek(at + size - 1), t == 127 ? 127 : 128);
                    while (x.length() < 64) x.halt();
                    dueRun(x, at, BAD_CODE, 1);
                }
            }
        }
    }

    private static void haltEndsTheRun() {
        DetourHooker x = halts(1);
        x.inc(0);
        dueRun(x, 0, HALTED, 1);
        due("register(0)", x.register(0), 0);
    }

    private static void plusWraps() {
        int[][] values = {{GREATEST, LEAST}, {GREATEST - 1, GREATEST}, {-1, 0}, {0, 1}, {LEAST, LEAST + 1}, {255, 256}};
        for (int r = 0; r < 4; r++) {
            DetourHooker x = new DetourHooker();
            x.inc(r);
            oneRegister(x, r, values);
        }
    }

    private static void minusWraps() {
        int[][] values = {{LEAST, GREATEST}, {LEAST + 1, LEAST}, {0, -1}, {1, 0}, {GREATEST, GREATEST - 1}, {256, 255}};
        for (int r = 0; r < 4; r++) {
            DetourHooker x = new DetourHooker();
            x.dec(r);
            oneRegister(x, r, values);
        }
    }

    private static void oneRegister(DetourHooker x, int r, int[][] values) {
        for (int[] v : values) {
            for (int s = 0; s < 4; s++) x.setRegister(s, s == r ? v[0] : 30 + s);
            x.run(0);
            for (int s = 0; s < 4; s++) due("register(" + s + ") after " + v[0], x.register(s), s == r ? v[1] : 30 + s);
        }
    }

    private static void moveBetweenAnyTwo() {
        int[] values = {LEAST, -1, 1, GREATEST};
        for (int r = 0; r < 4; r++) {
            for (int s = 0; s < 4; s++) {
                DetourHooker x = new DetourHooker();
                x.move(r, s);
                for (int i = 0; i < 4; i++) x.setRegister(i, values[i]);
                x.run(0);
                for (int i = 0; i < 4; i++) {
                    due("register(" + i + ") after move " + r + " " + s, x.register(i), values[i == r ? s : i]);
                }
            }
        }
    }

    private static void branchIfNot0() {
        int[] values = {LEAST, -256, -1, 0, 1, 256, 65536, GREATEST};
        for (int r = 0; r < 4; r++) {
            for (int v : values) {
                DetourHooker x = new DetourHooker();
                x.branch(r, 1);
                x.halt();
                x.jump(-3);
                for (int s = 0; s < 4; s++) x.setRegister(s, s == r ? v : v == 0 ? 1 : 0);
                dueRun(x, 0, HALTED, v == 0 ? 2 : 3);
                due("register(" + r + ")", x.register(r), v);
            }
        }
    }

    private static void eightAddressesFit() {
        DetourHooker x = new DetourHooker();
        x.call(1);
        x.halt();
        for (int i = 0; i < 7; i++) {
            x.call(1);
            x.giveBack();
        }
        x.inc(0);
        x.giveBack();
        dueRun(x, 0, HALTED, 18);
        due("register(0)", x.register(0), 1);
    }

    private static void theNinthOverflows() {
        DetourHooker x = new DetourHooker();
        x.inc(0);
        x.call(-4);
        dueRun(x, 0, OVERFLOW, 18);
        due("register(0)", x.register(0), 9);
        DetourHooker self = new DetourHooker();
        self.call(-2);
        dueRun(self, 0, OVERFLOW, 9);
    }

    /** Eight on the stack, one taken off: there is room for one again. */
    private static void roomAfterAReturn() {
        DetourHooker x = new DetourHooker();
        for (int i = 0; i < 7; i++) x.call(0);
        x.call(3);
        x.call(1);
        x.halt();
        due("the function", x.inc(0), 19);
        x.giveBack();
        dueRun(x, 0, HALTED, 14);
        due("register(0)", x.register(0), 2);
    }

    /** Eight on the stack, one taken off, one put on: there is room for no more. */
    private static void noRoomForTwoAfterAReturn() {
        DetourHooker x = new DetourHooker();
        for (int i = 0; i < 7; i++) x.call(0);
        x.call(4);
        x.call(0);
        x.call(0);
        due("the function", x.inc(0), 20);
        x.giveBack();
        dueRun(x, 0, OVERFLOW, 12);
        due("register(0)", x.register(0), 1);
    }

    /** The full stack is told before the bad target. */
    private static void overflowWithABadTarget() {
        DetourHooker eight = new DetourHooker();
        for (int i = 0; i < 8; i++) eight.call(0);
        eight.call(127);
        dueRun(eight, 0, OVERFLOW, 9);
        DetourHooker seven = new DetourHooker();
        for (int i = 0; i < 7; i++) seven.call(0);
        seven.call(127);
        dueRun(seven, 0, BAD_CODE, 8);
    }

    private static void returnFromNowhere() {
        DetourHooker x = new DetourHooker();
        x.giveBack();
        x.inc(0);
        dueRun(x, 0, HALTED, 1);
        due("register(0)", x.register(0), 0);
    }

    /** call, return, return: the second one finds the stack empty again. */
    private static void returnFromTheLast() {
        DetourHooker x = new DetourHooker();
        x.call(3);
        x.inc(1);
        x.giveBack();
        x.inc(0);
        x.giveBack();
        dueRun(x, 0, HALTED, 5);
        dueRegisters(x, 1, 1, 0, 0);
    }

    /** Each return goes behind its own call: the where there tells which. */
    private static void lastInFirstOut() {
        DetourHooker x = new DetourHooker();
        x.call(6);
        x.move(3, 2);
        x.where(2);
        x.halt();
        x.halt();
        due("f", x.call(5), 8);
        x.move(1, 0);
        x.where(0);
        x.giveBack();
        due("g", x.where(0), 15);
        x.giveBack();
        dueRun(x, 0, HALTED, 10);
        dueRegisters(x, 14, 17, 6, 0);
    }

    /** The address behind the last call is no instruction, and the return gets there all the same. */
    private static void returnBehindTheCode() {
        DetourHooker x = halts(61);
        x.giveBack();
        x.call(-3);
        dueRun(x, 62, BAD_CODE, 2);
    }

    private static void goesOnAtTheNextAddress() {
        Call[] plain = {x -> x.inc(0), x -> x.dec(0), x -> x.move(0, 1), x -> x.where(0)};
        for (int i = 0; i < plain.length; i++) {
            DetourHooker x = new DetourHooker();
            plain[i].on(x);
            x.halt();
            dueRun(x, 0, HALTED, 2);
            DetourHooker last = halts(62);
            plain[i].on(last);
            dueRun(last, 62, BAD_CODE, 1);
        }
    }

    public static void main(String[] args) {
        sentence("instructions are appended one after another", CodeBoundaryTest::oneAfterAnother);
        sentence("L at most 64", CodeBoundaryTest::atMost64);
        sentence("one byte (0 to 255) each", CodeBoundaryTest::bytesFrom0To255);
        sentence("as a byte it stands as T, or as T + 256 if T is negative", CodeBoundaryTest::targetAsAByte);
        sentence("an instruction begins at the address of its first byte", CodeBoundaryTest::beginsAtItsFirstByte);
        sentence("its next address is the one directly behind its last byte",
            CodeBoundaryTest::nextAddressIsBehindTheLastByte);
        sentence("a relative target T means the next address plus T", CodeBoundaryTest::targetsReach);
        sentence("the targets -128 and 127 lead out of any code", CodeBoundaryTest::targetsDontComeRound);
        sentence("halt ends the run", CodeBoundaryTest::haltEndsTheRun);
        sentence("plus wraps as in Java", CodeBoundaryTest::plusWraps);
        sentence("minus wraps as in Java", CodeBoundaryTest::minusWraps);
        sentence("register r becomes register s", CodeBoundaryTest::moveBetweenAnyTwo);
        sentence("if register r is not 0 goes on at the target, else at the next address",
            CodeBoundaryTest::branchIfNot0);
        sentence("the return stack takes 8 addresses", CodeBoundaryTest::eightAddressesFit);
        sentence("if the return stack holds 8 addresses ends the run: OVERFLOW", CodeBoundaryTest::theNinthOverflows);
        sentence("the return stack holds 7 addresses again", CodeBoundaryTest::roomAfterAReturn);
        sentence("the return stack holds 8 addresses again", CodeBoundaryTest::noRoomForTwoAfterAReturn);
        sentence("OVERFLOW whatever the target", CodeBoundaryTest::overflowWithABadTarget);
        sentence("if the return stack is empty ends the run: HALTED", CodeBoundaryTest::returnFromNowhere);
        sentence("the return stack is empty again", CodeBoundaryTest::returnFromTheLast);
        sentence("else takes the last address off it and goes on there", CodeBoundaryTest::lastInFirstOut);
        sentence("goes on there, even behind the code", CodeBoundaryTest::returnBehindTheCode);
        sentence("after the kinds 1, 2, 3 and 8 the run goes on at the next address",
            CodeBoundaryTest::goesOnAtTheNextAddress);
        end();
    }
}
