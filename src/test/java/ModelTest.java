/** Long mixed runs of calls, compared call by call with the model. The sequence is the same at every run. */
public final class ModelTest {
    private static final Due DUE = new Due("model");
    private static final int OBJECTS = 3000;
    private static final int CALLS = 512;
    private static final int[] EDGES = {0, 1, -1, 2, 7, 8, 15, 16, 23, 24, 31, 32, 40, 41, 511, 512,
        Asm.LEAST, Asm.GREATEST, Asm.LEAST + 1, 1 << 30};

    private static long seed = 20261115L;
    private static SmtCore x;
    private static Model[] model;

    public static void main(String[] args) {
        for (int i = 0; i < OBJECTS; i++) {
            int threads = below(7) - 1;
            x = new SmtCore(threads, below(7) - 1, below(28), below(16));
            model = new Model[Math.max(1, Math.min(4, threads))];
            for (int t = 0; t < model.length; t++) {
                model[t] = new Model();
            }
            boolean wild = below(4) == 0;
            for (int call = 0; call < CALLS; call++) {
                oneCall(i, wild);
            }
        }
        DUE.end();
    }

    private static int next() {
        seed = seed * 6364136223846793005L + 1442695040888963407L;
        return (int) (seed >>> 32);
    }

    private static int below(int bound) {
        return (int) ((next() & 0xffffffffL) % bound);
    }

    private static int any() {
        int kind = below(4);
        return kind == 0 ? next() : kind == 1 ? EDGES[below(EDGES.length)] : below(20) - 2;
    }

    private static int someThread(boolean wild) {
        return wild && below(4) == 0 ? any() : below(model.length);
    }

    private static int some(int bound, boolean wild) {
        return wild && below(4) == 0 ? any() : below(bound);
    }

    private static boolean good(int thread) {
        return thread >= 0 && thread < model.length;
    }

    private static void oneCall(int object, boolean wild) {
        int t = someThread(wild);
        String on = "object " + object + ": ";
        switch (below(24)) {
            case 0, 1, 2, 3, 4, 5 -> emit(on, t, some(16, wild), some(512, wild));
            case 6 -> retarget(on, t, some(24, wild), any());
            case 7 -> setReg(on, t, some(8, wild), any());
            case 8 -> setMem(on, t, some(16, wild), any());
            case 9, 10 -> restart(on, t, below(8) == 0 ? any() : below(24));
            case 11 -> reset(on, t, below(6) != 0);
            case 12, 13 -> run(on, below(4) == 0 ? any() : below(12));
            case 14, 15 -> runOne(on, t, below(4) == 0 ? any() : below(12));
            case 16, 17 -> reg(on, t, some(8, wild));
            case 18 -> mem(on, t, some(16, wild));
            case 19 -> DUE.same(on + "pc(" + t + ")", x.pc(t), good(t) ? model[t].pc : 0);
            case 20 -> DUE.same(on + "status(" + t + ")", x.status(t), good(t) ? model[t].status : -1);
            case 21 -> DUE.same(on + "retired(" + t + ")", x.retired(t), good(t) ? model[t].retired : 0);
            case 22 -> DUE.same(on + "digest(" + t + ")", x.digest(t), good(t) ? model[t].digest : 0);
            default -> DUE.same(on + "size(" + t + ")", x.size(t), good(t) ? model[t].code.size() : 0);
        }
    }

    private static void emit(String on, int t, int op, int regs) {
        int imm = op == Asm.BEQ || op == Asm.BLT || op == Asm.CALL ? below(24) : any();
        int want;
        if (!good(t)) {
            want = -1;
        } else if (op < 0 || op > 15) {
            want = -2;
        } else if (regs < 0 || regs > 511) {
            want = -3;
        } else if (model[t].code.size() == 24) {
            want = -4;
        } else {
            want = model[t].code.size();
            model[t].code.add(new Model.Instruction(op, regs, imm));
        }
        DUE.same(on + "emit(" + t + ", " + op + ", " + regs + ", " + imm + ")", x.emit(t, op, regs, imm), want);
    }

    private static void retarget(String on, int t, int index, int imm) {
        int want = -1;
        if (good(t)) {
            want = -5;
            if (index >= 0 && index < model[t].code.size()) {
                want = index;
                model[t].code.get(index).imm = imm;
            }
        }
        DUE.same(on + "retarget(" + t + ", " + index + ", " + imm + ")", x.retarget(t, index, imm), want);
    }

    private static void setReg(String on, int t, int r, int value) {
        boolean written = good(t) && r >= 0 && r <= 7;
        if (written) {
            model[t].r[r] = value;
        }
        DUE.same(on + "setReg(" + t + ", " + r + ")", x.setReg(t, r, value), written ? 0 : good(t) ? -5 : -1);
    }

    private static void setMem(String on, int t, int a, int value) {
        boolean written = good(t) && a >= 0 && a <= 15;
        if (written) {
            model[t].m[a] = value;
        }
        DUE.same(on + "setMem(" + t + ", " + a + ")", x.setMem(t, a, value), written ? 0 : good(t) ? -5 : -1);
    }

    private static void restart(String on, int t, int pc) {
        if (good(t)) {
            model[t].pc = pc;
            model[t].status = 0;
        }
        DUE.same(on + "restart(" + t + ", " + pc + ")", x.restart(t, pc), good(t) ? 0 : -1);
    }

    private static void reset(String on, int t, boolean spared) {
        if (spared) {
            return;
        }
        if (good(t)) {
            model[t].reset();
        }
        DUE.same(on + "reset(" + t + ")", x.reset(t), good(t) ? 0 : -1);
    }

    /** All threads side by side, a step each in turn. */
    private static void run(String on, int n) {
        int want = 0;
        for (int step = 0; step < Math.min(n, 40); step++) {
            for (Model one : model) {
                want += one.status == 0 && one.step() ? 1 : 0;
            }
        }
        DUE.same(on + "run(" + n + ")", x.run(n), want);
    }

    private static void runOne(String on, int t, int n) {
        int want = good(t) ? 0 : -1;
        for (int step = 0; good(t) && step < Math.min(n, 40); step++) {
            want += model[t].status == 0 && model[t].step() ? 1 : 0;
        }
        DUE.same(on + "runOne(" + t + ", " + n + ")", x.runOne(t, n), want);
    }

    private static void reg(String on, int t, int r) {
        boolean there = good(t) && r >= 0 && r <= 7;
        DUE.same(on + "reg(" + t + ", " + r + ")", x.reg(t, r), there ? model[t].r[r] : 0);
    }

    private static void mem(String on, int t, int a) {
        boolean there = good(t) && a >= 0 && a <= 15;
        DUE.same(on + "mem(" + t + ", " + a + ")", x.mem(t, a), there ? model[t].m[a] : 0);
    }
}
