public final class Promise06RestartTest {
    private static final Due DUE = new Due("promise 6");

    public static void main(String[] args) {
        setsCounterAndStatus();
        leavesTheRest();
        wakesFromEveryStop();
        refuses();
        DUE.end();
    }

    private static void setsCounterAndStatus() {
        for (int pc : new int[] {0, 1, 2, 3, 24, -1, Asm.LEAST, Asm.GREATEST}) {
            SmtCore x = Asm.four();
            x.emit(2, Asm.SET, 1, 10);
            x.emit(2, Asm.SET, 1, 11);
            DUE.same("restart(2, " + pc + ")", x.restart(2, pc), 0);
            DUE.same("pc(2)", x.pc(2), pc);
            DUE.same("status(2)", x.status(2), SmtCore.RUNNING);
            DUE.same("runOne(2, 1)", x.runOne(2, 1), pc == 0 || pc == 1 ? 1 : 0);
            DUE.same("pc(2) then", x.pc(2), pc == 0 || pc == 1 ? pc + 1 : pc);
            DUE.same("status(2) then", x.status(2), pc == 0 || pc == 1 ? SmtCore.RUNNING : SmtCore.PC_TRAP);
        }
    }

    private static void leavesTheRest() {
        SmtCore x = Asm.busyFour();
        String before = Asm.readAll(x);
        int pc = x.pc(1);
        x.restart(1, 900);
        x.restart(1, pc);
        DUE.sameThread("restart there and back", Asm.readAll(x), before);
    }

    private static void wakesFromEveryStop() {
        SmtCore x = Asm.single();
        x.emit(0, Asm.HALT, 0, 0);
        x.emit(0, Asm.DIV, 0, 0);
        x.emit(0, Asm.STORE, 0, -1);
        int[] stops = {SmtCore.HALTED, SmtCore.DIVIDE_TRAP, SmtCore.ADDRESS_TRAP, SmtCore.PC_TRAP};
        for (int p = 0; p < 4; p++) {
            DUE.same("restart(0, " + p + ")", x.restart(0, p), 0);
            DUE.same("status(0) after restart", x.status(0), SmtCore.RUNNING);
            DUE.same("run(40)", x.run(40), 0);
            DUE.same("status(0) at " + p, x.status(0), stops[p]);
        }
    }

    private static void refuses() {
        SmtCore x = Asm.busyFour();
        x.emit(0, Asm.HALT, 0, 0);
        x.restart(0, 4);
        x.run(1);
        String before = Asm.readAll(x);
        for (int t : Asm.NO_THREADS) {
            DUE.same("restart(" + t + ", 2)", x.restart(t, 2), SmtCore.BAD_THREAD);
        }
        DUE.sameThread("refused restart", Asm.readAll(x), before);
    }
}
