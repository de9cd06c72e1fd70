public final class Promise08RunTest {
    private static final Due DUE = new Due("promise 8");

    public static void main(String[] args) {
        clampsSteps();
        countsOverAllThreads();
        stopIsAStepThatDoesNotRetire();
        stoppedThreadsStandStill();
        leavesThreadsBeyondTheObjectAlone();
        splitRunsAddUp();
        DUE.end();
    }

    /** A thread that never stops by itself. */
    private static void loop(SmtCore x, int t) {
        x.emit(t, Asm.ADDI, Asm.regs(1, 1, 0), 1);
        x.emit(t, Asm.BEQ, 0, 0);
    }

    private static void clampsSteps() {
        int[][] cases = {{0, 0}, {1, 1}, {2, 2}, {39, 39}, {40, 40}, {41, 40}, {Asm.GREATEST, 40},
            {-1, 0}, {-40, 0}, {Asm.LEAST, 0}};
        for (int[] one : cases) {
            SmtCore x = Asm.single();
            loop(x, 0);
            DUE.same("run(" + one[0] + ")", x.run(one[0]), one[1]);
            DUE.same("retired(0)", x.retired(0), one[1]);
            DUE.same("pc(0)", x.pc(0), one[1] % 2);
            DUE.same("status(0)", x.status(0), SmtCore.RUNNING);
        }
        SmtCore empty = Asm.single();
        DUE.same("run(0) without code", empty.run(0), 0);
        DUE.same("status(0)", empty.status(0), SmtCore.RUNNING);
        DUE.same("run(-1) without code", empty.run(-1), 0);
        DUE.same("status(0)", empty.status(0), SmtCore.RUNNING);
        DUE.same("run(1) without code", empty.run(1), 0);
        DUE.same("status(0)", empty.status(0), SmtCore.PC_TRAP);
    }

    private static void countsOverAllThreads() {
        SmtCore x = Asm.four();
        loop(x, 0);
        loop(x, 2);
        x.emit(1, Asm.SET, 1, 1);
        x.emit(1, Asm.HALT, 0, 0);
        DUE.same("run(40)", x.run(40), 81);
        DUE.same("retired(0)", x.retired(0), 40);
        DUE.same("retired(1)", x.retired(1), 1);
        DUE.same("retired(2)", x.retired(2), 40);
        DUE.same("retired(3)", x.retired(3), 0);
        DUE.same("status(1)", x.status(1), SmtCore.HALTED);
        DUE.same("status(3)", x.status(3), SmtCore.PC_TRAP);
        DUE.same("run(3)", x.run(3), 6);
        loop(x, 3);
        x.restart(3, 0);
        x.restart(1, 0);
        DUE.same("run(5)", x.run(5), 16);
    }

    private static void stopIsAStepThatDoesNotRetire() {
        SmtCore x = Asm.single();
        x.emit(0, Asm.SET, 1, 1);
        x.emit(0, Asm.SET, 2, 1);
        x.emit(0, Asm.HALT, 0, 0);
        DUE.same("run(2)", x.run(2), 2);
        DUE.same("status(0)", x.status(0), SmtCore.RUNNING);
        DUE.same("run(1)", x.run(1), 0);
        DUE.same("status(0)", x.status(0), SmtCore.HALTED);
        x.restart(0, 0);
        DUE.same("run(3)", x.run(3), 2);
        DUE.same("status(0)", x.status(0), SmtCore.HALTED);
    }

    private static void stoppedThreadsStandStill() {
        SmtCore x = Asm.four();
        x.emit(0, Asm.HALT, 0, 0);
        x.emit(1, Asm.DIV, 0, 0);
        x.emit(2, Asm.LOAD, 0, 16);
        x.run(40);
        x.retarget(2, 0, 3);
        x.setReg(1, 0, 1);
        x.emit(3, Asm.SET, 0, 1);
        String before = Asm.readAll(x);
        DUE.same("run(40) with all stopped", x.run(40), 0);
        DUE.sameThread("run(40) with all stopped", Asm.readAll(x), before);
    }

    private static void leavesThreadsBeyondTheObjectAlone() {
        for (int threads = 1; threads <= 4; threads++) {
            SmtCore x = new SmtCore(threads, 4, 8, 8);
            for (int t = 0; t < 4; t++) {
                loop(x, t);
            }
            DUE.same("run(10) of " + threads + " threads", x.run(10), 10 * threads);
        }
    }

    private static void splitRunsAddUp() {
        SmtCore whole = Asm.busyFour();
        SmtCore split = Asm.busyFour();
        DUE.same("run(40)", whole.run(40), 160);
        int sum = 0;
        for (int n : new int[] {1, 2, 0, 3, 11, -5, 23}) {
            sum += split.run(n);
        }
        DUE.same("the split runs together", sum, 160);
        DUE.sameThread("the split runs", Asm.readAll(split), Asm.readAll(whole));
    }
}
