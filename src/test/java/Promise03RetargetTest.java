public final class Promise03RetargetTest {
    private static final Due DUE = new Due("promise 3");

    public static void main(String[] args) {
        givesNewConstant();
        changesOneInstructionOnly();
        refuses();
        DUE.end();
    }

    private static void givesNewConstant() {
        for (int imm : new int[] {Asm.LEAST, -1, 0, 77, Asm.GREATEST}) {
            SmtCore x = Asm.four();
            x.emit(1, Asm.SET, 3, 5);
            String before = Asm.readAll(x);
            DUE.same("retarget(1, 0, " + imm + ")", x.retarget(1, 0, imm), 0);
            DUE.sameThread("retarget", Asm.readAll(x), before);
            x.run(1);
            DUE.same("reg(1, 3)", x.reg(1, 3), imm);
        }
        SmtCore x = Asm.single();
        x.emit(0, Asm.HALT, 0, 0);
        x.run(1);
        DUE.same("retarget in HALTED", x.retarget(0, 0, 9), 0);
        DUE.same("status(0) after retarget", x.status(0), SmtCore.HALTED);
    }

    private static void changesOneInstructionOnly() {
        SmtCore x = Asm.four();
        for (int t = 0; t < 4; t++) {
            for (int i = 0; i < 24; i++) {
                x.emit(t, i % 8 == 7 ? Asm.XOR : Asm.SET, i % 8, i);
            }
        }
        DUE.same("retarget(2, 23, 900)", x.retarget(2, 23, 900), 23);
        DUE.same("retarget(2, 17, 901)", x.retarget(2, 17, 901), 17);
        DUE.same("retarget(2, 16, 902)", x.retarget(2, 16, 902), 16);
        x.run(40);
        for (int t = 0; t < 4; t++) {
            DUE.same("reg(" + t + ", 0)", x.reg(t, 0), t == 2 ? 902 : 16);
            DUE.same("reg(" + t + ", 1)", x.reg(t, 1), t == 2 ? 901 : 17);
            DUE.same("reg(" + t + ", 2)", x.reg(t, 2), 18);
            DUE.same("reg(" + t + ", 7)", x.reg(t, 7), 0);
        }
    }

    private static void refuses() {
        SmtCore x = Asm.four();
        DUE.same("retarget(0, 0, 1) without code", x.retarget(0, 0, 1), SmtCore.BAD_INDEX);
        for (int t = 0; t < 4; t++) {
            x.emit(t, Asm.SET, 1, 5);
            x.emit(t, Asm.SET, 2, 6);
        }
        for (int t : Asm.NO_THREADS) {
            DUE.same("retarget(" + t + ", 0, 1)", x.retarget(t, 0, 1), SmtCore.BAD_THREAD);
            DUE.same("retarget(" + t + ", -1, 1)", x.retarget(t, -1, 1), SmtCore.BAD_THREAD);
        }
        for (int index : new int[] {-1, 2, 3, 23, 24, -24, 25, Asm.LEAST, Asm.GREATEST}) {
            DUE.same("retarget(1, " + index + ", 1)", x.retarget(1, index, 1), SmtCore.BAD_INDEX);
        }
        x.emit(1, Asm.ADDI, Asm.regs(3, 0, 0), 8);
        DUE.same("run(3)", x.run(3), 9);
        for (int t = 0; t < 4; t++) {
            DUE.same("reg(" + t + ", 1) after refusals", x.reg(t, 1), 5);
            DUE.same("reg(" + t + ", 2) after refusals", x.reg(t, 2), 6);
        }
        DUE.same("reg(1, 3) after refusals", x.reg(1, 3), 8);
        x.reset(1);
        DUE.same("retarget(1, 0, 1) after reset", x.retarget(1, 0, 1), SmtCore.BAD_INDEX);
    }
}
