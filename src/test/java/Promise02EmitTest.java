public final class Promise02EmitTest {
    private static final Due DUE = new Due("promise 2");

    public static void main(String[] args) {
        answersIndexes();
        refusesInOrder();
        refusalChangesNothing();
        takesEveryInstruction();
        isAllowedInAnyStatus();
        DUE.end();
    }

    private static void answersIndexes() {
        SmtCore x = Asm.four();
        for (int i = 0; i < 24; i++) {
            DUE.same("emit number " + i, x.emit(2, Asm.ADDI, Asm.regs(1, 1, 0), i), i);
        }
        DUE.same("emit with 24 there", x.emit(2, Asm.HALT, 0, 0), SmtCore.CODE_FULL);
        DUE.same("emit again with 24 there", x.emit(2, Asm.HALT, 0, 0), SmtCore.CODE_FULL);
        DUE.same("size(2)", x.size(2), 24);
        DUE.same("emit on another thread", x.emit(3, Asm.HALT, 0, 0), 0);
        DUE.same("runOne(2, 40)", x.runOne(2, 40), 24);
        DUE.same("reg(2, 1)", x.reg(2, 1), 276);
        DUE.same("pc(2)", x.pc(2), 24);
        DUE.same("status(2)", x.status(2), SmtCore.PC_TRAP);
        DUE.same("runOne(3, 40)", x.runOne(3, 40), 0);
        DUE.same("status(3)", x.status(3), SmtCore.HALTED);
    }

    private static void refusesInOrder() {
        SmtCore x = Asm.four();
        for (int t : Asm.NO_THREADS) {
            DUE.same("emit(" + t + ", 1, 1, 1)", x.emit(t, 1, 1, 1), SmtCore.BAD_THREAD);
            DUE.same("emit(" + t + ", -1, -1, 1)", x.emit(t, -1, -1, 1), SmtCore.BAD_THREAD);
        }
        int[] badOps = {-1, 16, 17, 32, Asm.LEAST, Asm.GREATEST};
        int[] badRegs = {-1, 512, 513, 1024, Asm.LEAST, Asm.GREATEST};
        for (int full = 0; full < 2; full++) {
            for (int op : badOps) {
                DUE.same("emit(0, " + op + ", 0, 0)", x.emit(0, op, 0, 0), SmtCore.BAD_OP);
                DUE.same("emit(0, " + op + ", 512, 0)", x.emit(0, op, 512, 0), SmtCore.BAD_OP);
            }
            for (int regs : badRegs) {
                DUE.same("emit(0, 15, " + regs + ", 0)", x.emit(0, 15, regs, 0), SmtCore.BAD_REGS);
                DUE.same("emit(0, 0, " + regs + ", 0)", x.emit(0, 0, regs, 0), SmtCore.BAD_REGS);
            }
            for (int i = 0; i < 24; i++) {
                x.emit(0, Asm.SET, 0, i);
            }
        }
        DUE.same("emit(0, 0, 0, 0) when full", x.emit(0, 0, 0, 0), SmtCore.CODE_FULL);
    }

    private static void refusalChangesNothing() {
        SmtCore x = Asm.busyFour();
        String before = Asm.readAll(x);
        x.emit(-1, Asm.SET, 1, 1);
        x.emit(4, Asm.SET, 1, 1);
        x.emit(0, 16, 1, 1);
        x.emit(0, -1, 1, 1);
        x.emit(0, Asm.SET, 512, 1);
        x.emit(0, Asm.SET, -1, 1);
        DUE.sameThread("refused emits", Asm.readAll(x), before);
        DUE.same("emit after refusals", x.emit(0, Asm.HALT, 0, 0), 4);
        SmtCore full = Asm.single();
        for (int i = 0; i < 24; i++) {
            full.emit(0, Asm.ADDI, Asm.regs(0, 0, 0), 1);
        }
        String beforeFull = Asm.read(full, 0);
        full.emit(0, Asm.SET, 0, 500);
        DUE.sameThread("emit on full code", Asm.read(full, 0), beforeFull);
        DUE.same("run(40) of the full code", full.run(40), 24);
        DUE.same("reg(0, 0)", full.reg(0, 0), 24);
    }

    /** Every register of every place takes part once, and the constants at the ends of int arrive whole. */
    private static void takesEveryInstruction() {
        for (int regs = 0; regs <= 511; regs++) {
            SmtCore x = Asm.single();
            for (int r = 0; r < 8; r++) {
                x.setReg(0, r, 1 << (3 * r));
            }
            int a = regs / 8 % 8;
            int b = regs / 64;
            DUE.same("emit(0, 2, " + regs + ", 0)", x.emit(0, Asm.ADD, regs, 0), 0);
            x.run(1);
            for (int r = 0; r < 8; r++) {
                int want = r == regs % 8 ? (1 << (3 * a)) + (1 << (3 * b)) : 1 << (3 * r);
                DUE.same("reg(0, " + r + ") after ADD with regs " + regs, x.reg(0, r), want);
            }
        }
        for (int imm : new int[] {Asm.LEAST, -1, 0, 1, Asm.GREATEST}) {
            SmtCore x = Asm.single();
            x.emit(0, Asm.SET, 511, imm);
            x.run(1);
            DUE.same("reg(0, 7) after SET " + imm, x.reg(0, 7), imm);
        }
        for (int op = 0; op <= 15; op++) {
            DUE.same("emit(0, " + op + ", 511, 0)", Asm.single().emit(0, op, 511, 0), 0);
        }
    }

    private static void isAllowedInAnyStatus() {
        SmtCore x = Asm.single();
        x.run(1);
        DUE.same("emit in PC_TRAP", x.emit(0, Asm.HALT, 0, 0), 0);
        stays(x, SmtCore.PC_TRAP, 0);
        x.restart(0, 0);
        x.run(1);
        DUE.same("emit in HALTED", x.emit(0, Asm.DIV, 0, 0), 1);
        stays(x, SmtCore.HALTED, 0);
        x.restart(0, 1);
        x.run(1);
        DUE.same("emit in DIVIDE_TRAP", x.emit(0, Asm.LOAD, 0, 16), 2);
        stays(x, SmtCore.DIVIDE_TRAP, 1);
        x.restart(0, 2);
        x.run(1);
        DUE.same("emit in ADDRESS_TRAP", x.emit(0, Asm.SET, 0, 1), 3);
        stays(x, SmtCore.ADDRESS_TRAP, 2);
        x.restart(0, 3);
        DUE.same("emit in RUNNING", x.emit(0, Asm.SET, 0, 2), 4);
        stays(x, SmtCore.RUNNING, 3);
        DUE.same("run(2) over what was emitted", x.run(2), 2);
    }

    private static void stays(SmtCore x, int status, int pc) {
        DUE.same("status(0) after emit", x.status(0), status);
        DUE.same("pc(0) after emit", x.pc(0), pc);
    }
}
