/** The names that the document gives the operations, and what the tests read of a whole thread. */
final class Asm {
    static final int HALT = 0;
    static final int SET = 1;
    static final int ADD = 2;
    static final int SUB = 3;
    static final int MUL = 4;
    static final int DIV = 5;
    static final int AND = 6;
    static final int XOR = 7;
    static final int SHL = 8;
    static final int ADDI = 9;
    static final int LOAD = 10;
    static final int STORE = 11;
    static final int BEQ = 12;
    static final int BLT = 13;
    static final int CALL = 14;
    static final int JUMPR = 15;

    static final int LEAST = Integer.MIN_VALUE;
    static final int GREATEST = Integer.MAX_VALUE;

    /** What no object takes for a thread; an object of four threads refuses 4 as well. */
    static final int[] NO_THREADS = {-1, 4, 5, 8, LEAST, GREATEST, 1 << 29, 1 << 30, -4};

    private Asm() {
    }

    static int regs(int d, int a, int b) {
        return d + 8 * a + 64 * b;
    }

    /** A new object with one thread, in the size that the tests use when the size is of no concern. */
    static SmtCore single() {
        return new SmtCore(1, 2, 8, 8);
    }

    static SmtCore four() {
        return new SmtCore(4, 2, 8, 8);
    }

    /** Everything that can be read of a thread, without a call that changes it. */
    static String read(SmtCore x, int thread) {
        StringBuilder all = new StringBuilder();
        all.append("size ").append(x.size(thread));
        all.append(" pc ").append(x.pc(thread));
        all.append(" status ").append(x.status(thread));
        all.append(" retired ").append(x.retired(thread));
        all.append(" digest ").append(x.digest(thread));
        all.append(" R");
        for (int r = 0; r < 8; r++) {
            all.append(' ').append(x.reg(thread, r));
        }
        all.append(" M");
        for (int a = 0; a < 16; a++) {
            all.append(' ').append(x.mem(thread, a));
        }
        return all.toString();
    }

    static String readAll(SmtCore x) {
        StringBuilder all = new StringBuilder();
        for (int thread = 0; thread < 4; thread++) {
            all.append(read(x, thread)).append(" | ");
        }
        return all.toString();
    }

    /** Gives every thread of a four-thread object code, registers, cells and a past of its own. */
    static SmtCore busyFour() {
        SmtCore x = four();
        for (int t = 0; t < 4; t++) {
            x.emit(t, SET, regs(1, 0, 0), 100 + t);
            x.emit(t, ADDI, regs(2, 1, 0), 7);
            x.emit(t, STORE, regs(0, 0, 2), t);
            x.emit(t, BEQ, regs(0, 0, 0), 0);
            x.setReg(t, 7, 1000 * (t + 1));
            x.setMem(t, 15, -1000 * (t + 1));
        }
        x.run(6);
        return x;
    }
}
