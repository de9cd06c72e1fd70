import java.util.function.Consumer;

/** The limits of what a thread owns, how values wrap, and what an instruction is made of. */
final class TermsEdges {
    private static final int LEAST = Asm.LEAST;
    private static final int GREATEST = Asm.GREATEST;
    private static final int[] ENDS = {LEAST, LEAST + 1, -1, 0, 1, GREATEST - 1, GREATEST};

    private TermsEdges() {
    }

    static void add(Sentences s) {
        s.under("Terms");
        s.holds("Every thread has code of its own (at most 24 instructions),", TermsEdges::codeOf24);
        s.holds("eight registers (0 to 7),", TermsEdges::eightRegisters);
        s.holds("sixteen memory cells (0 to 15),", TermsEdges::sixteenCells);
        s.holds("a program counter and a status.", TermsEdges::ownCounterAndStatus);
        s.holds("No thread can read or change what belongs to another.", TermsEdges::threadsAreApart);
        s.holds("All values are 32-bit and wrap as Java's int does.", TermsEdges::valuesWrap);
        s.holds("AN INSTRUCTION has an operation op (0 to 15),", TermsEdges::firstAndLastOperation);
        s.holds("three register numbers d, a, b (0 to 7 each)", TermsEdges::registerNumbers);
        s.holds("and a constant imm (any int).", TermsEdges::anyConstant);
        s.holds("The registers come packed in one number: regs = d + 8 * a + 64 * b.", TermsEdges::packing);
        s.holds("R[x] is register x of the thread, M[x] its memory cell x;", TermsEdges::samePlaces);
        s.holds("all reads come before the write.", TermsEdges::readsBeforeTheWrite);
        s.holds("p is the program counter of the instruction.", TermsEdges::counterOfTheInstruction);
    }

    private static void codeOf24(Edge e) {
        Watched x = e.core(4);
        for (int i = 0; i < 24; i++) {
            for (int t = 0; t < 4; t++) {
                x.due(i).emit(t, Asm.SET, i % 8, 1000 * t + i);
            }
        }
        for (int t = 0; t < 4; t++) {
            x.due(SmtCore.CODE_FULL).emit(t, Asm.SET, 7, 9);
            x.due(24).size(t);
        }
        x.due(4 * 24).run(40);
        for (int t = 0; t < 4; t++) {
            x.due(SmtCore.PC_TRAP).status(t);
            x.due(24).pc(t);
            for (int r = 0; r < 8; r++) {
                x.due(1000 * t + 16 + r).reg(t, r);
            }
        }
    }

    private static void eightRegisters(Edge e) {
        Watched x = e.core(4);
        for (int t = 0; t < 4; t++) {
            for (int r = 0; r < 8; r++) {
                x.due(0).setReg(t, r, 100 * t + r + 1);
            }
            x.due(SmtCore.BAD_INDEX).setReg(t, -1, 9);
            x.due(SmtCore.BAD_INDEX).setReg(t, 8, 9);
        }
        for (int t = 0; t < 4; t++) {
            for (int r = 0; r < 8; r++) {
                x.due(100 * t + r + 1).reg(t, r);
            }
            x.due(0).reg(t, -1);
            x.due(0).reg(t, 8);
        }
    }

    private static void sixteenCells(Edge e) {
        Watched x = e.core(4);
        for (int t = 0; t < 4; t++) {
            for (int a = 0; a < 16; a++) {
                x.due(0).setMem(t, a, 100 * t + a + 1);
            }
            x.due(SmtCore.BAD_INDEX).setMem(t, -1, 9);
            x.due(SmtCore.BAD_INDEX).setMem(t, 16, 9);
        }
        for (int t = 0; t < 4; t++) {
            for (int a = 0; a < 16; a++) {
                x.due(100 * t + a + 1).mem(t, a);
            }
            x.due(0).mem(t, -1);
            x.due(0).mem(t, 16);
        }
    }

    /** Thread t stops on its instruction t, each in a way of its own. */
    private static void ownCounterAndStatus(Edge e) {
        int[] stopping = {Asm.HALT, Asm.DIV, Asm.LOAD};
        Watched x = e.core(4);
        for (int t = 0; t < 4; t++) {
            x.restart(t, 100 * (t + 1));
            for (int i = 0; i < t; i++) {
                x.emit(t, Asm.SET, 1, i);
            }
            if (t < stopping.length) {
                x.emit(t, stopping[t], 0, -1);
            }
        }
        for (int t = 0; t < 4; t++) {
            x.due(100 * (t + 1)).pc(t);
            x.due(SmtCore.RUNNING).status(t);
            x.restart(t, 0);
        }
        x.due(0 + 1 + 2 + 3).run(40);
        for (int t = 0; t < 4; t++) {
            x.due(t).pc(t);
        }
        x.due(SmtCore.HALTED).status(0);
        x.due(SmtCore.DIVIDE_TRAP).status(1);
        x.due(SmtCore.ADDRESS_TRAP).status(2);
        x.due(SmtCore.PC_TRAP).status(3);
    }

    private static void threadsAreApart(Edge e) {
        for (int t = 0; t < 4; t++) {
            int own = t;
            writesOfOneThread(e, t, x -> setAtTheEnds(x, own));
            writesOfOneThread(e, t, x -> storeAtTheEnds(x, own));
            writesOfOneThread(e, t, x -> countBeyondTheEnds(x, own));
            writesOfOneThread(e, t, x -> x.reset(own));
        }
        readsItsOwn(e);
    }

    private static void writesOfOneThread(Edge e, int own, Consumer<Watched> calls) {
        Watched x = e.busy();
        Watched untouched = e.busy();
        calls.accept(x);
        for (int t = 0; t < 4; t++) {
            if (t != own) {
                e.alike("calls for thread " + own + ", thread " + t, x.state(t), untouched.state(t));
                x.restart(t, 0);
                untouched.restart(t, 0);
                x.due(5).runOne(t, 5);
                untouched.runOne(t, 5);
                x.due(untouched.digest(t)).digest(t);
            }
        }
    }

    private static void setAtTheEnds(Watched x, int t) {
        x.setReg(t, 0, -77);
        x.setReg(t, 7, -78);
        x.setMem(t, 0, -79);
        x.setMem(t, 15, -80);
        x.setReg(t, -1, -81);
        x.setReg(t, 8, -82);
        x.setMem(t, -1, -83);
        x.setMem(t, 16, -84);
        for (int i = 0; i < 22; i++) {
            x.emit(t, Asm.SET, 3, -85);
        }
        x.retarget(t, 0, -86);
        x.retarget(t, 23, -87);
        x.retarget(t, -1, -88);
        x.retarget(t, 24, -89);
    }

    private static void storeAtTheEnds(Watched x, int t) {
        int first = x.size(t);
        for (int e : new int[] {-1, 0, 15, 16}) {
            x.emit(t, Asm.STORE, Asm.regs(0, 3, 7), e);
        }
        x.emit(t, Asm.ADDI, Asm.regs(0, 7, 0), 1);
        x.emit(t, Asm.ADDI, Asm.regs(7, 7, 0), 1);
        for (int i = 0; i < 6; i++) {
            x.restart(t, first + i);
            x.due(i == 0 || i == 3 ? 0 : 1).runOne(t, 1);
        }
    }

    private static void countBeyondTheEnds(Watched x, int t) {
        for (int i = x.size(t); i < 24; i++) {
            x.emit(t, Asm.SET, 3, 6);
        }
        for (int pc : new int[] {-1, 24, LEAST, GREATEST}) {
            x.restart(t, pc);
            x.due(0).runOne(t, 40);
            x.due(SmtCore.PC_TRAP).status(t);
        }
    }

    /** The neighbours' first and last register and cell all differ from the thread's own. */
    private static void readsItsOwn(Edge e) {
        Watched x = e.busy();
        for (int t = 0; t < 4; t++) {
            int first = x.size(t);
            x.emit(t, Asm.ADD, Asm.regs(5, 0, 7), 0);
            x.emit(t, Asm.LOAD, Asm.regs(5, 3, 0), 0);
            x.emit(t, Asm.LOAD, Asm.regs(5, 3, 0), 15);
            int[] due = {1010 * (t + 1), t == 0 ? 107 : -10 * (t + 1), -1000 * (t + 1)};
            x.restart(t, first);
            for (int value : due) {
                x.due(1).runOne(t, 1);
                x.due(value).reg(t, 5);
            }
        }
    }

    private static void valuesWrap(Edge e) {
        for (int value : ENDS) {
            Watched x = e.core(1);
            x.emit(0, Asm.STORE, Asm.regs(0, 0, 1), 15);
            x.emit(0, Asm.LOAD, Asm.regs(2, 0, 0), 15);
            x.emit(0, Asm.ADDI, Asm.regs(3, 2, 0), 1);
            x.emit(0, Asm.ADDI, Asm.regs(4, 2, 0), -1);
            x.emit(0, Asm.JUMPR, Asm.regs(0, 2, 0), 0);
            x.setReg(0, 1, value);
            x.setMem(0, 14, value);
            x.due(5).run(5);
            x.due(value).mem(0, 14);
            x.due(value).mem(0, 15);
            x.due(value).reg(0, 2);
            x.due(value == GREATEST ? LEAST : value + 1).reg(0, 3);
            x.due(value == LEAST ? GREATEST : value - 1).reg(0, 4);
            x.due(value).pc(0);
        }
    }

    private static void firstAndLastOperation(Edge e) {
        e.stops(e.at(0, Asm.HALT, 3, 4, 5), SmtCore.HALTED);
        Watched last = e.at(0, Asm.JUMPR, 3, 4, 5);
        last.due(1).run(1);
        last.due(3).pc(0);
        Watched x = e.core(1);
        x.due(SmtCore.BAD_OP).emit(0, -1, 0, 0);
        x.due(SmtCore.BAD_OP).emit(0, 16, 0, 0);
        for (int op = 0; op <= 15; op++) {
            x.due(op).emit(0, op, 0, 0);
        }
    }

    private static void registerNumbers(Edge e) {
        for (int r = 0; r < 8; r++) {
            int other = r == 7 ? 0 : 7;
            int third = r == 4 ? 3 : 4;
            subtracts(e, Asm.regs(r, other, third), r, other, third);
            subtracts(e, Asm.regs(other, r, third), other, r, third);
            subtracts(e, Asm.regs(other, third, r), other, third, r);
        }
    }

    /** Every register holds another power of two, so that the difference tells which two it came from. */
    private static void subtracts(Edge e, int regs, int d, int a, int b) {
        Watched x = e.at(0, Asm.SUB, regs, 0);
        for (int r = 0; r < 8; r++) {
            x.setReg(0, r, 1 << (3 * r));
        }
        x.due(1).run(1);
        for (int r = 0; r < 8; r++) {
            x.due(r == d ? (1 << (3 * a)) - (1 << (3 * b)) : 1 << (3 * r)).reg(0, r);
        }
    }

    private static void anyConstant(Edge e) {
        for (int imm : ENDS) {
            writes(e, Asm.SET, imm, imm);
            writes(e, Asm.ADD, imm, 60 + 7);
            writes(e, Asm.SUB, imm, 60 - 7);
            writes(e, Asm.MUL, imm, 60 * 7);
            writes(e, Asm.DIV, imm, 60 / 7);
            writes(e, Asm.AND, imm, 60 & 7);
            writes(e, Asm.XOR, imm, 60 ^ 7);
            writes(e, Asm.SHL, imm, 60 << (imm & 31));
            writes(e, Asm.ADDI, imm, 60 + imm);
            reachesCell4(e, imm);
            goesTo(e, Asm.BEQ, 7, 7, imm, imm);
            goesTo(e, Asm.BLT, 6, 7, imm, imm);
            goesTo(e, Asm.CALL, 6, 7, imm, imm);
            goesTo(e, Asm.JUMPR, 6, 7, imm, 6);
            e.stops(e.at(2, Asm.HALT, 6, 7, imm), SmtCore.HALTED);
        }
    }

    private static void writes(Edge e, int op, int imm, int want) {
        Watched x = e.at(2, op, 60, 7, imm);
        x.due(1).run(1);
        x.due(want).reg(0, 5);
    }

    private static void reachesCell4(Edge e, int imm) {
        Watched load = e.at(2, Asm.LOAD, 4 - imm, 7, imm);
        load.setMem(0, 4, 44);
        load.due(1).run(1);
        load.due(44).reg(0, 5);
        Watched store = e.at(2, Asm.STORE, 4 - imm, 7, imm);
        store.due(1).run(1);
        store.due(7).mem(0, 4);
    }

    private static void goesTo(Edge e, int op, int a, int b, int imm, int next) {
        Watched x = e.at(2, op, a, b, imm);
        x.due(1).run(1);
        x.due(next).pc(0);
    }

    /** On both sides of where d runs over into a, and a into b. */
    private static void packing(Edge e) {
        int[][] cases = {{0, 0, 0, 0}, {7, 7, 0, 0}, {8, 0, 1, 0}, {63, 7, 7, 0}, {64, 0, 0, 1}, {56, 0, 7, 0},
            {448, 0, 0, 7}, {511, 7, 7, 7}, {71, 7, 0, 1}, {72, 0, 1, 1}, {455, 7, 0, 7}};
        for (int[] one : cases) {
            subtracts(e, one[0], one[1], one[2], one[3]);
        }
    }

    /** What an instruction calls R[x] and M[x] is what setReg, reg, setMem and mem reach with x. */
    private static void samePlaces(Edge e) {
        for (int t = 0; t < 4; t++) {
            Watched x = e.core(4);
            for (int r = 0; r < 8; r++) {
                int other = (r + 3) % 8;
                x.reset(t);
                x.emit(t, Asm.ADDI, Asm.regs(other, r, 0), 5);
                x.setReg(t, r, 100 * t + r + 1);
                x.due(1).runOne(t, 1);
                x.due(100 * t + r + 6).reg(t, other);
            }
            for (int a = 0; a < 16; a++) {
                x.reset(t);
                x.emit(t, Asm.LOAD, Asm.regs(2, 1, 0), a);
                x.emit(t, Asm.STORE, Asm.regs(0, 1, 2), 15 - a);
                x.setMem(t, a, 1000 * t + a + 1);
                x.due(2).runOne(t, 2);
                x.due(1000 * t + a + 1).reg(t, 2);
                x.due(1000 * t + a + 1).mem(t, 15 - a);
            }
        }
    }

    /** However the counter came there: by restart, or by the instructions before. */
    private static void counterOfTheInstruction(Edge e) {
        for (int p = 0; p < 24; p++) {
            Watched called = e.at(p, Asm.CALL, 3, 4, 0);
            called.due(1).run(1);
            called.due(p + 1).reg(0, 5);
            called.due(7 * p + p + 1).digest(0);
            Watched reached = e.core(1);
            for (int i = 0; i < p; i++) {
                reached.emit(0, Asm.SET, 1, -7 * i);
            }
            reached.emit(0, Asm.CALL, Asm.regs(5, 0, 0), 0);
            reached.due(p + 1).run(p + 1);
            reached.due(p + 1).reg(0, 5);
            reached.due(7 * p + p + 1).digest(0);
        }
    }

    /** With d, a and b all the same register, at both ends. */
    private static void readsBeforeTheWrite(Edge e) {
        for (int r : new int[] {0, 7}) {
            writesOver(e, r, Asm.SET, 9, 5, 5);
            writesOver(e, r, Asm.ADD, 9, 5, 18);
            writesOver(e, r, Asm.SUB, 9, 5, 0);
            writesOver(e, r, Asm.MUL, 9, 5, 81);
            writesOver(e, r, Asm.DIV, 9, 5, 1);
            writesOver(e, r, Asm.AND, 9, 5, 9);
            writesOver(e, r, Asm.XOR, 9, 5, 0);
            writesOver(e, r, Asm.SHL, 9, 5, 288);
            writesOver(e, r, Asm.ADDI, 9, 5, 14);
            writesOver(e, r, Asm.LOAD, 9, 5, 314);
            writesOver(e, r, Asm.CALL, 9, 5, 1);
            Watched store = over(e, r, Asm.STORE, 9, 5);
            store.due(9).reg(0, r);
            store.due(9).mem(0, 14);
        }
    }

    private static Watched over(Edge e, int r, int op, int value, int imm) {
        Watched x = e.at(0, op, Asm.regs(r, r, r), imm);
        x.setReg(0, r, value);
        for (int a = 0; a < 16; a++) {
            x.setMem(0, a, 300 + a);
        }
        x.due(1).run(1);
        return x;
    }

    private static void writesOver(Edge e, int r, int op, int value, int imm, int want) {
        Watched x = over(e, r, op, value, imm);
        x.due(want).reg(0, r);
        x.due(want).digest(0);
    }
}
