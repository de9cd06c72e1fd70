/** One step of a thread: each operation, its edges, and what a stop leaves as it was. */
public final class StepTest {
    private static final Due DUE = new Due("one step");
    private static final int LEAST = Asm.LEAST;
    private static final int GREATEST = Asm.GREATEST;

    public static void main(String[] args) {
        constants();
        arithmetic();
        division();
        bitsAndShifts();
        loads();
        stores();
        branches();
        calls();
        readsComeBeforeTheWrite();
        stopsChangeNothingElse();
        countersOutsideTheCode();
        threadsAreApart();
        DUE.end();
    }

    /** Carries out one instruction at index 2 with R[3] = a, R[4] = b, written to R[5]. */
    private static SmtCore one(int op, int a, int b, int imm) {
        SmtCore x = Asm.single();
        x.emit(0, Asm.SET, 0, 0);
        x.emit(0, Asm.SET, 0, 0);
        x.emit(0, op, Asm.regs(5, 3, 4), imm);
        x.setReg(0, 3, a);
        x.setReg(0, 4, b);
        x.setReg(0, 5, 555);
        x.restart(0, 2);
        return x;
    }

    private static void writes(int op, int a, int b, int imm, int want) {
        SmtCore x = one(op, a, b, imm);
        String call = "op " + op + " with a " + a + ", b " + b + ", imm " + imm + ": ";
        DUE.same(call + "run(1)", x.run(1), 1);
        DUE.same(call + "R[d]", x.reg(0, 5), want);
        DUE.same(call + "R[a]", x.reg(0, 3), a);
        DUE.same(call + "R[b]", x.reg(0, 4), b);
        DUE.same(call + "digest", x.digest(0), 14 + want);
        DUE.same(call + "pc", x.pc(0), 3);
        DUE.same(call + "retired", x.retired(0), 1);
        DUE.same(call + "status", x.status(0), SmtCore.RUNNING);
    }

    private static void constants() {
        writes(Asm.SET, 1, 2, 0, 0);
        writes(Asm.SET, 1, 2, -77, -77);
        writes(Asm.SET, 1, 2, GREATEST, GREATEST);
        writes(Asm.SET, 1, 2, LEAST, LEAST);
    }

    private static void arithmetic() {
        writes(Asm.ADD, 20, 22, 9, 42);
        writes(Asm.ADD, GREATEST, 1, 9, LEAST);
        writes(Asm.ADD, LEAST, LEAST, 9, 0);
        writes(Asm.SUB, 20, 22, 9, -2);
        writes(Asm.SUB, LEAST, 1, 9, GREATEST);
        writes(Asm.SUB, 0, LEAST, 9, LEAST);
        writes(Asm.MUL, -6, 7, 9, -42);
        writes(Asm.MUL, 65536, 65536, 9, 0);
        writes(Asm.MUL, LEAST, -1, 9, LEAST);
        writes(Asm.MUL, 123456789, 987654321, 9, -67153019);
        writes(Asm.ADDI, 20, 9, 22, 42);
        writes(Asm.ADDI, 20, 9, -22, -2);
        writes(Asm.ADDI, GREATEST, 9, 1, LEAST);
    }

    private static void division() {
        writes(Asm.DIV, 7, 2, 9, 3);
        writes(Asm.DIV, -7, 2, 9, -3);
        writes(Asm.DIV, 7, -2, 9, -3);
        writes(Asm.DIV, -7, -2, 9, 3);
        writes(Asm.DIV, 0, 5, 0, 0);
        writes(Asm.DIV, LEAST, -1, 9, LEAST);
        writes(Asm.DIV, LEAST, 1, 9, LEAST);
        writes(Asm.DIV, LEAST, LEAST, 9, 1);
        writes(Asm.DIV, GREATEST, LEAST, 9, 0);
        stops(Asm.DIV, 7, 0, 9, SmtCore.DIVIDE_TRAP);
        stops(Asm.DIV, 0, 0, 9, SmtCore.DIVIDE_TRAP);
        stops(Asm.DIV, LEAST, 0, -1, SmtCore.DIVIDE_TRAP);
    }

    private static void bitsAndShifts() {
        writes(Asm.AND, 12, 10, 9, 8);
        writes(Asm.AND, -1, LEAST, 9, LEAST);
        writes(Asm.XOR, 12, 10, 9, 6);
        writes(Asm.XOR, -1, GREATEST, 9, LEAST);
        writes(Asm.SHL, 3, 9, 0, 3);
        writes(Asm.SHL, 3, 9, 4, 48);
        writes(Asm.SHL, 3, 9, 31, LEAST);
        writes(Asm.SHL, 3, 9, 32, 3);
        writes(Asm.SHL, 3, 9, 33, 6);
        writes(Asm.SHL, 3, 9, -1, LEAST);
        writes(Asm.SHL, -3, 9, 1, -6);
        writes(Asm.SHL, LEAST, 9, 1, 0);
        writes(Asm.SHL, 5, 9, LEAST, 5);
    }

    private static void loads() {
        for (int e = 0; e < 16; e++) {
            loadsFrom(e - 7, 7, e);
            loadsFrom(e, 0, e);
            loadsFrom(0, e, e);
            loadsFrom(LEAST + e, LEAST, e);
        }
        loadsFrom(GREATEST, -GREATEST + 15, 15);
        for (int[] bad : new int[][] {{0, 16}, {16, 0}, {0, -1}, {-1, 0}, {GREATEST, 1}, {LEAST, 0}, {GREATEST, 0},
            {15, 1}, {8, -9}, {1 << 30, 1 << 30}}) {
            stops(Asm.LOAD, bad[0], 9, bad[1], SmtCore.ADDRESS_TRAP);
            stops(Asm.STORE, bad[0], 9, bad[1], SmtCore.ADDRESS_TRAP);
        }
    }

    private static void loadsFrom(int a, int imm, int e) {
        SmtCore x = one(Asm.LOAD, a, 9, imm);
        for (int cell = 0; cell < 16; cell++) {
            x.setMem(0, cell, 300 + cell);
        }
        DUE.same("run(1) of LOAD " + a + " + " + imm, x.run(1), 1);
        DUE.same("R[d] of LOAD " + a + " + " + imm, x.reg(0, 5), 300 + e);
        DUE.same("digest of LOAD " + a + " + " + imm, x.digest(0), 14 + 300 + e);
        DUE.same("pc of LOAD " + a + " + " + imm, x.pc(0), 3);
        for (int cell = 0; cell < 16; cell++) {
            DUE.same("mem(0, " + cell + ") after LOAD", x.mem(0, cell), 300 + cell);
        }
    }

    private static void stores() {
        for (int e = 0; e < 16; e++) {
            storesTo(e - 7, 1234, 7, e);
            storesTo(e, GREATEST, 0, e);
            storesTo(0, LEAST, e, e);
            storesTo(LEAST + e, -5, LEAST, e);
        }
    }

    private static void storesTo(int a, int b, int imm, int e) {
        SmtCore x = one(Asm.STORE, a, b, imm);
        for (int cell = 0; cell < 16; cell++) {
            x.setMem(0, cell, 300 + cell);
        }
        DUE.same("run(1) of STORE " + a + " + " + imm, x.run(1), 1);
        for (int cell = 0; cell < 16; cell++) {
            DUE.same("mem(0, " + cell + ") after STORE to " + e, x.mem(0, cell), cell == e ? b : 300 + cell);
        }
        DUE.same("R[d] after STORE", x.reg(0, 5), 555);
        DUE.same("digest after STORE", x.digest(0), 14 + 5 * e + b);
        DUE.same("pc after STORE", x.pc(0), 3);
        DUE.same("retired after STORE", x.retired(0), 1);
    }

    private static void branches() {
        for (int imm : new int[] {0, 1, 2, 3, 24, -1, LEAST, GREATEST}) {
            goesTo(Asm.BEQ, 5, 5, imm, imm);
            goesTo(Asm.BEQ, 5, 6, imm, 3);
            goesTo(Asm.BEQ, LEAST, LEAST, imm, imm);
            goesTo(Asm.BEQ, 0, LEAST, imm, 3);
            goesTo(Asm.BLT, 5, 6, imm, imm);
            goesTo(Asm.BLT, 5, 5, imm, 3);
            goesTo(Asm.BLT, 6, 5, imm, 3);
            goesTo(Asm.BLT, -1, 0, imm, imm);
            goesTo(Asm.BLT, 0, -1, imm, 3);
            goesTo(Asm.BLT, LEAST, GREATEST, imm, imm);
            goesTo(Asm.BLT, GREATEST, LEAST, imm, 3);
            goesTo(Asm.JUMPR, imm, 9, 77, imm);
        }
    }

    private static void goesTo(int op, int a, int b, int imm, int next) {
        SmtCore x = one(op, a, b, imm);
        String call = "op " + op + " with a " + a + ", b " + b + ", imm " + imm + ": ";
        DUE.same(call + "run(1)", x.run(1), 1);
        DUE.same(call + "pc", x.pc(0), next);
        DUE.same(call + "digest", x.digest(0), 14 + next);
        DUE.same(call + "R[d]", x.reg(0, 5), 555);
        DUE.same(call + "status", x.status(0), SmtCore.RUNNING);
        DUE.same(call + "retired", x.retired(0), 1);
    }

    private static void calls() {
        for (int imm : new int[] {0, 1, 2, 3, 24, -1, LEAST, GREATEST}) {
            SmtCore x = one(Asm.CALL, 8, 9, imm);
            DUE.same("run(1) of CALL " + imm, x.run(1), 1);
            DUE.same("R[d] of CALL " + imm, x.reg(0, 5), 3);
            DUE.same("pc of CALL " + imm, x.pc(0), imm);
            DUE.same("digest of CALL " + imm, x.digest(0), 14 + 3);
            DUE.same("status after CALL " + imm, x.status(0), SmtCore.RUNNING);
        }
    }

    private static void readsComeBeforeTheWrite() {
        SmtCore x = Asm.single();
        x.setReg(0, 6, 9);
        x.setMem(0, 9, 4);
        x.emit(0, Asm.MUL, Asm.regs(6, 6, 6), 0);
        x.emit(0, Asm.SUB, Asm.regs(6, 6, 6), 0);
        x.emit(0, Asm.ADDI, Asm.regs(6, 6, 0), 9);
        x.emit(0, Asm.LOAD, Asm.regs(6, 6, 6), 0);
        x.emit(0, Asm.STORE, Asm.regs(6, 6, 6), 1);
        x.emit(0, Asm.DIV, Asm.regs(6, 6, 6), 0);
        int[] due = {81, 0, 9, 4, 4, 1};
        for (int i = 0; i < due.length; i++) {
            DUE.same("run(1) at " + i, x.run(1), 1);
            DUE.same("reg(0, 6) after " + i, x.reg(0, 6), due[i]);
        }
        DUE.same("mem(0, 5)", x.mem(0, 5), 4);
    }

    private static void stops(int op, int a, int b, int imm, int status) {
        SmtCore x = one(op, a, b, imm);
        x.setMem(0, 0, 31);
        x.setMem(0, 15, 32);
        String before = Asm.read(x, 0);
        String call = "op " + op + " with a " + a + ", b " + b + ", imm " + imm;
        DUE.same("run(40) of " + call, x.run(40), 0);
        DUE.same("status after " + call, x.status(0), status);
        DUE.sameThread(call, Asm.read(x, 0), before.replace("status 0", "status " + status));
    }

    private static void stopsChangeNothingElse() {
        stops(Asm.HALT, 3, 4, 5, SmtCore.HALTED);
        stops(Asm.HALT, 0, 0, 0, SmtCore.HALTED);
        SmtCore x = Asm.single();
        x.emit(0, Asm.SET, 1, 8);
        x.emit(0, Asm.DIV, Asm.regs(1, 1, 2), 0);
        x.run(40);
        DUE.same("digest(0) after a stop", x.digest(0), 8);
        DUE.same("retired(0) after a stop", x.retired(0), 1);
        DUE.same("pc(0) after a stop", x.pc(0), 1);
        x.setReg(0, 2, 2);
        x.restart(0, 1);
        DUE.same("run(1) once mended", x.run(1), 1);
        DUE.same("reg(0, 1) once mended", x.reg(0, 1), 4);
        DUE.same("digest(0) once mended", x.digest(0), 8 * 31 + 7 + 4);
    }

    private static void countersOutsideTheCode() {
        for (int pc : new int[] {-1, 3, 4, 23, 24, 25, 96, -24, LEAST, GREATEST}) {
            SmtCore x = one(Asm.HALT, 1, 2, 3);
            x.restart(0, pc);
            String before = Asm.read(x, 0);
            DUE.same("run(40) at " + pc, x.run(40), 0);
            DUE.sameThread("run(40) at " + pc, Asm.read(x, 0), before.replace("status 0", "status 4"));
        }
        // An instruction of the next thread must not be taken for one of this thread.
        SmtCore x = Asm.four();
        for (int i = 0; i < 24; i++) {
            x.emit(0, Asm.SET, 0, 1);
        }
        x.emit(1, Asm.SET, 1, 2);
        x.restart(0, 24);
        DUE.same("runOne(0, 1) at 24", x.runOne(0, 1), 0);
        DUE.same("status(0) at 24", x.status(0), SmtCore.PC_TRAP);
        x.restart(1, -1);
        DUE.same("runOne(1, 1) at -1", x.runOne(1, 1), 0);
        DUE.same("status(1) at -1", x.status(1), SmtCore.PC_TRAP);
    }

    private static void threadsAreApart() {
        SmtCore x = Asm.four();
        for (int t = 0; t < 4; t++) {
            x.emit(t, Asm.LOAD, Asm.regs(1, 0, 0), 0);
            x.emit(t, Asm.STORE, Asm.regs(0, 0, 1), 15);
            x.setMem(t, 0, 100 + t);
        }
        DUE.same("run(2)", x.run(2), 8);
        for (int t = 0; t < 4; t++) {
            DUE.same("reg(" + t + ", 1) after LOAD", x.reg(t, 1), 100 + t);
            for (int a = 0; a < 16; a++) {
                int want = a == 0 || a == 15 ? 100 + t : 0;
                DUE.same("mem(" + t + ", " + a + ") after STORE", x.mem(t, a), want);
            }
        }
    }
}
