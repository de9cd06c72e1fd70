/** A processor core that runs one to four threads. */
public final class SmtCore {
    public static final int BAD_THREAD = -1;
    public static final int BAD_OP = -2;
    public static final int BAD_REGS = -3;
    public static final int CODE_FULL = -4;
    public static final int BAD_INDEX = -5;
    public static final int RUNNING = 0;
    public static final int HALTED = 1;
    public static final int DIVIDE_TRAP = 2;
    public static final int ADDRESS_TRAP = 3;
    public static final int PC_TRAP = 4;

    private static final int HALT = 0;
    private static final int SET = 1;
    private static final int ADD = 2;
    private static final int SUB = 3;
    private static final int MUL = 4;
    private static final int DIV = 5;
    private static final int AND = 6;
    private static final int XOR = 7;
    private static final int SHL = 8;
    private static final int ADDI = 9;
    private static final int LOAD = 10;
    private static final int STORE = 11;
    private static final int BEQ = 12;
    private static final int BLT = 13;
    private static final int CALL = 14;
    private static final int JUMPR = 15;

    private static final int MOST_THREADS = 4;
    private static final int MOST_STEPS = 40;
    private static final int CODE_LENGTH = 24;
    private static final int REGISTERS = 8;
    private static final int CELLS = 16;
    private static final int ALL_CODE = MOST_THREADS * CODE_LENGTH;
    private static final int ALL_REGISTERS = MOST_THREADS * REGISTERS;
    private static final int ALL_CELLS = MOST_THREADS * CELLS;
    private static final int GREATEST_OP = 15;
    private static final int GREATEST_REGS = 511;

    private final int threads;
    // The core's size is part of the object, but no answer may depend on it, so nothing reads these three.
    private final int width;
    private final int spare;
    private final int window;

    // Each thread owns one stretch of these arrays, so that no thread can reach what belongs to another.
    private final int[] codeOp = new int[ALL_CODE];
    private final int[] codeRegs = new int[ALL_CODE];
    private final int[] codeImm = new int[ALL_CODE];
    private final int[] registers = new int[ALL_REGISTERS];
    private final int[] memory = new int[ALL_CELLS];

    private final int[] codeSize = new int[MOST_THREADS];
    private final int[] counter = new int[MOST_THREADS];
    private final int[] state = new int[MOST_THREADS];
    private final int[] retiredCount = new int[MOST_THREADS];
    private final int[] digestValue = new int[MOST_THREADS];

    public SmtCore(int threads, int width, int spare, int window) {
        this.threads = clamp(threads, 1, MOST_THREADS);
        this.width = clamp(width, 1, 4);
        this.spare = clamp(spare, 2, 24);
        this.window = clamp(window, 2, 12);
    }

    public int emit(int thread, int op, int regs, int imm) {
        if (!isThread(thread)) {
            return BAD_THREAD;
        }
        if (op < 0 || op > GREATEST_OP) {
            return BAD_OP;
        }
        if (regs < 0 || regs > GREATEST_REGS) {
            return BAD_REGS;
        }
        int index = codeSize[thread];
        if (index >= CODE_LENGTH) {
            return CODE_FULL;
        }
        int slot = thread * CODE_LENGTH + index;
        codeOp[slot] = op;
        codeRegs[slot] = regs;
        codeImm[slot] = imm;
        codeSize[thread] = index + 1;
        return index;
    }

    public int retarget(int thread, int index, int imm) {
        if (!isThread(thread)) {
            return BAD_THREAD;
        }
        if (!isInstruction(thread, index)) {
            return BAD_INDEX;
        }
        codeImm[thread * CODE_LENGTH + index] = imm;
        return index;
    }

    public int setReg(int thread, int r, int value) {
        if (!isThread(thread)) {
            return BAD_THREAD;
        }
        if (!isRegister(r)) {
            return BAD_INDEX;
        }
        registers[thread * REGISTERS + r] = value;
        return 0;
    }

    public int setMem(int thread, int a, int value) {
        if (!isThread(thread)) {
            return BAD_THREAD;
        }
        if (!isCell(a)) {
            return BAD_INDEX;
        }
        memory[thread * CELLS + a] = value;
        return 0;
    }

    public int restart(int thread, int pc) {
        if (!isThread(thread)) {
            return BAD_THREAD;
        }
        counter[thread] = pc;
        state[thread] = RUNNING;
        return 0;
    }

    public int reset(int thread) {
        if (!isThread(thread)) {
            return BAD_THREAD;
        }
        // With size 0 the old instructions can't be reached any more, and emit overwrites them whole.
        codeSize[thread] = 0;
        for (int r = 0; r < REGISTERS; r++) {
            registers[thread * REGISTERS + r] = 0;
        }
        for (int a = 0; a < CELLS; a++) {
            memory[thread * CELLS + a] = 0;
        }
        counter[thread] = 0;
        state[thread] = RUNNING;
        retiredCount[thread] = 0;
        digestValue[thread] = 0;
        return 0;
    }

    public int run(int n) {
        // Threads share nothing, so one after the other answers the same as all side by side.
        int total = 0;
        for (int thread = 0; thread < threads; thread++) {
            total += makeSteps(thread, n);
        }
        return total;
    }

    public int runOne(int thread, int n) {
        if (!isThread(thread)) {
            return BAD_THREAD;
        }
        return makeSteps(thread, n);
    }

    public int reg(int thread, int r) {
        return isThread(thread) && isRegister(r) ? registers[thread * REGISTERS + r] : 0;
    }

    public int mem(int thread, int a) {
        return isThread(thread) && isCell(a) ? memory[thread * CELLS + a] : 0;
    }

    public int pc(int thread) {
        return isThread(thread) ? counter[thread] : 0;
    }

    public int status(int thread) {
        return isThread(thread) ? state[thread] : BAD_THREAD;
    }

    public int retired(int thread) {
        return isThread(thread) ? retiredCount[thread] : 0;
    }

    public int digest(int thread) {
        return isThread(thread) ? digestValue[thread] : 0;
    }

    public int size(int thread) {
        return isThread(thread) ? codeSize[thread] : 0;
    }

    private static int clamp(int value, int least, int greatest) {
        if (value < least) {
            return least;
        }
        return value > greatest ? greatest : value;
    }

    private boolean isThread(int thread) {
        return thread >= 0 && thread < threads;
    }

    private boolean isInstruction(int thread, int index) {
        return index >= 0 && index < codeSize[thread];
    }

    private static boolean isRegister(int r) {
        return r >= 0 && r < REGISTERS;
    }

    private static boolean isCell(int a) {
        return a >= 0 && a < CELLS;
    }

    /** Answers how many instructions retired. */
    private int makeSteps(int thread, int n) {
        int most = clamp(n, 0, MOST_STEPS);
        int before = retiredCount[thread];
        for (int made = 0; made < most && state[thread] == RUNNING; made++) {
            step(thread);
        }
        return retiredCount[thread] - before;
    }

    private void step(int thread) {
        int stop = stopAtCounter(thread);
        if (stop == RUNNING) {
            retire(thread);
        } else {
            state[thread] = stop;
        }
    }

    /** The status with which the thread stops at its counter, or RUNNING if the instruction there can retire. */
    private int stopAtCounter(int thread) {
        int p = counter[thread];
        if (!isInstruction(thread, p)) {
            return PC_TRAP;
        }
        int slot = thread * CODE_LENGTH + p;
        int op = codeOp[slot];
        if (op == HALT) {
            return HALTED;
        }
        if (op == DIV && readB(thread, slot) == 0) {
            return DIVIDE_TRAP;
        }
        if (op == LOAD || op == STORE) {
            int e = readA(thread, slot) + codeImm[slot];
            return isCell(e) ? RUNNING : ADDRESS_TRAP;
        }
        return RUNNING;
    }

    /** Only for a thread that stopAtCounter lets go on: the index, the divisor and the address are good. */
    private void retire(int thread) {
        int p = counter[thread];
        int slot = thread * CODE_LENGTH + p;
        int op = codeOp[slot];
        int a = readA(thread, slot);
        int b = readB(thread, slot);
        int imm = codeImm[slot];
        int next = nextCounter(op, p, a, b, imm);
        int e = a + imm;
        int v;
        if (op == STORE) {
            memory[thread * CELLS + e] = b;
            v = 5 * e + b;
        } else if (op == BEQ || op == BLT || op == JUMPR) {
            v = next;
        } else {
            v = op == LOAD ? memory[thread * CELLS + e] : result(op, p, a, b, imm);
            registers[thread * REGISTERS + (codeRegs[slot] & 7)] = v;
        }
        counter[thread] = next;
        retiredCount[thread]++;
        digestValue[thread] = digestValue[thread] * 31 + 7 * p + v;
    }

    private int readA(int thread, int slot) {
        return registers[thread * REGISTERS + (codeRegs[slot] >> 3 & 7)];
    }

    private int readB(int thread, int slot) {
        return registers[thread * REGISTERS + (codeRegs[slot] >> 6 & 7)];
    }

    private static int nextCounter(int op, int p, int a, int b, int imm) {
        switch (op) {
            case BEQ:
                return a == b ? imm : p + 1;
            case BLT:
                return a < b ? imm : p + 1;
            case CALL:
                return imm;
            case JUMPR:
                return a;
            default:
                return p + 1;
        }
    }

    /** What the operation writes to its register, for all that write one but LOAD. */
    private static int result(int op, int p, int a, int b, int imm) {
        switch (op) {
            case SET:
                return imm;
            case ADD:
                return a + b;
            case SUB:
                return a - b;
            case MUL:
                return a * b;
            case DIV:
                // A thread stops before it gets here with 0; the test keeps the division safe by itself.
                return b == 0 ? 0 : a / b;
            case AND:
                return a & b;
            case XOR:
                return a ^ b;
            case SHL:
                return a << (imm & 31);
            case ADDI:
                return a + imm;
            case CALL:
                return p + 1;
            default:
                return 0;
        }
    }
}
