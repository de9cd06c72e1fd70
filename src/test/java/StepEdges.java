/** One step of a thread, point by point, and the constructor's last three numbers. */
final class StepEdges {
    private static final int LEAST = Asm.LEAST;
    private static final int GREATEST = Asm.GREATEST;

    private StepEdges() {
    }

    static void add(Sentences s) {
        s.under("Terms");
        s.holds("ONE STEP of a thread whose status is RUNNING, with counter p:", StepEdges::onlyWhileRunning);
        s.holds("1. If p is not the index of an instruction of its code (0 to size - 1): status becomes PC_TRAP,"
            + " nothing else changes.", StepEdges::counterOutside);
        s.holds("2. If the operation is HALT: status becomes HALTED, nothing else changes.", StepEdges::halt);
        s.holds("3. If it is DIV with R[b] 0: status becomes DIVIDE_TRAP, nothing else changes.", StepEdges::divide);
        s.holds("4. If it is LOAD or STORE with e outside 0 to 15: status becomes ADDRESS_TRAP, nothing else changes.",
            StepEdges::address);
        s.holds("5. Else the instruction is carried out and has RETIRED: register or memory is written, the counter"
            + " becomes the next counter,", StepEdges::retires);
        s.holds("the count of retired instructions goes up by 1 (wrapping),", StepEdges::countsRetired);
        s.holds("and the digest becomes digest * 31 + 7 * p + v (wrapping),", StepEdges::digestWraps);
        s.holds("where v is the value written to R[d] (operations 1 to 10 and 14),", StepEdges::digestOfWritten);
        s.holds("5 * e + R[b] for STORE,", StepEdges::digestOfStore);
        s.holds("and the next counter for BEQ, BLT and JUMPR.", StepEdges::digestOfBranches);
        s.holds("So a thread that stops keeps its counter on the instruction that stopped it.",
            StepEdges::stoppedCounter);
        s.plain("The constructor's last three numbers describe the size of the core.");
        s.holds("They change nothing that any call answers.", StepEdges::sizeChangesNothing);
    }

    /** A stopped thread makes no step, even where its instruction would retire by now. */
    private static void onlyWhileRunning(Edge e) {
        Watched x = e.core(4);
        x.emit(0, Asm.HALT, 0, 0);
        x.emit(1, Asm.DIV, 0, 0);
        x.emit(2, Asm.LOAD, 0, 16);
        x.run(1);
        x.setReg(1, 0, 1);
        x.retarget(2, 0, 15);
        x.emit(3, Asm.SET, 0, 1);
        String stopped = x.state();
        x.due(0).run(1);
        x.due(0).run(40);
        e.alike("run with all threads stopped", x.state(), stopped);
        for (int t = 1; t < 4; t++) {
            x.restart(t, 0);
            x.due(1).runOne(t, 1);
        }
    }

    private static void counterOutside(Edge e) {
        for (int size : new int[] {0, 1, 2, 23, 24}) {
            for (int p : new int[] {LEAST, -24, -1, size, size + 1, 24, 25, GREATEST}) {
                e.stops(sized(e, size, p), SmtCore.PC_TRAP);
            }
            for (int p : new int[] {0, size - 1}) {
                if (p >= 0 && p < size) {
                    Watched x = sized(e, size, p);
                    x.due(1).run(1);
                    x.due(SmtCore.RUNNING).status(0);
                    x.due(p + 1).pc(0);
                }
            }
        }
        Watched grown = sized(e, 23, 23);
        grown.emit(0, Asm.SET, 1, 8);
        grown.due(1).run(1);
        grown.due(0).run(1);
        grown.due(SmtCore.PC_TRAP).status(0);
    }

    private static Watched sized(Edge e, int size, int p) {
        Watched x = e.core(1);
        for (int i = 0; i < size; i++) {
            x.emit(0, Asm.SET, i % 8, 900 + i);
        }
        x.restart(0, p);
        return x;
    }

    private static void halt(Edge e) {
        for (int p : new int[] {0, 1, 23}) {
            for (int regs : new int[] {0, 511}) {
                for (int imm : new int[] {LEAST, 0, GREATEST}) {
                    e.stops(marked(e.at(p, Asm.HALT, regs, imm)), SmtCore.HALTED);
                }
            }
        }
    }

    /** Registers and cells that aren't 0, so that a change shows. */
    private static Watched marked(Watched x) {
        x.setReg(0, 0, 70);
        x.setReg(0, 7, 77);
        x.setMem(0, 0, 80);
        x.setMem(0, 15, 95);
        return x;
    }

    private static void divide(Edge e) {
        for (int p : new int[] {0, 1, 23}) {
            for (int b = 1; b < 7; b++) {
                e.stops(marked(e.at(p, Asm.DIV, Asm.regs(7, 0, b), 5)), SmtCore.DIVIDE_TRAP);
            }
            for (int value : new int[] {LEAST, -1, 1, GREATEST}) {
                Watched x = e.at(p, Asm.DIV, 0, value, 0);
                x.due(1).run(1);
                x.due(0).reg(0, 5);
                x.due(SmtCore.RUNNING).status(0);
            }
        }
    }

    private static void address(Edge e) {
        for (int op : new int[] {Asm.LOAD, Asm.STORE}) {
            for (int p : new int[] {0, 1, 23}) {
                for (int outside : new int[] {LEAST, -1, 16, GREATEST}) {
                    e.stops(marked(e.at(p, op, outside, 9, 0)), SmtCore.ADDRESS_TRAP);
                    e.stops(marked(e.at(p, op, 0, 9, outside)), SmtCore.ADDRESS_TRAP);
                }
                for (int inside : new int[] {0, 15}) {
                    Watched x = e.at(p, op, inside, 9, 0);
                    x.due(1).run(1);
                    x.due(SmtCore.RUNNING).status(0);
                }
            }
        }
    }

    /** Each operation that retires writes what the table says and nothing else, for the first and last d. */
    private static void retires(Edge e) {
        int[] due = {0, 11, 9, 3, 18, 2, 2, 5, 6 << 11, 17, 314, 0, 0, 0, 1, 0};
        for (int d : new int[] {0, 7}) {
            for (int op = Asm.SET; op <= Asm.JUMPR; op++) {
                int imm = op == Asm.LOAD || op == Asm.STORE ? 8 : 11;
                Watched x = e.at(0, op, Asm.regs(d, 3, 4), imm);
                x.setReg(0, 3, 6);
                x.setReg(0, 4, 3);
                x.setMem(0, 14, 314);
                String before = x.state();
                x.due(1).run(1);
                boolean toRegister = op <= Asm.LOAD || op == Asm.CALL;
                int next = op == Asm.CALL ? imm : op == Asm.JUMPR ? 6 : 1;
                int v = toRegister ? due[op] : op == Asm.STORE ? 5 * 14 + 3 : next;
                String after = before.replace("pc 0", "pc " + next).replace("retired 0 digest 0",
                    "retired 1 digest " + v);
                if (toRegister) {
                    after = d == 0 ? after.replace("R 0 ", "R " + v + " ") : after.replace(" 0 M", " " + v + " M");
                }
                if (op == Asm.STORE) {
                    after = after.replace("314", "3");
                }
                e.alike("one step of operation " + op, x.state(), after);
            }
        }
    }

    /** 20400 is the most that 512 calls can bring the count to, so the wrap has to be put within reach. */
    private static void countsRetired(Edge e) {
        Watched x = e.core(1);
        x.due(0).retired(0);
        x.emit(0, Asm.BEQ, 0, 0);
        x.due(1).run(1);
        x.due(1).retired(0);
        Watched most = e.core(1);
        most.emit(0, Asm.BEQ, 0, 0);
        while (most.calls() < Watched.MOST_CALLS - 1) {
            most.due(40).run(40);
        }
        most.due(20400).retired(0);
        for (int count : new int[] {LEAST, -1, GREATEST - 1, GREATEST}) {
            x.putRetired(0, count);
            x.due(1).run(1);
            x.due(count == GREATEST ? LEAST : count + 1).retired(0);
        }
        x.putRetired(0, GREATEST - 20);
        x.due(40).run(40);
        x.due(LEAST + 19).retired(0);
    }

    /** At p the digest, which is 'before', takes in v. */
    private static void takesIn(Edge e, int before, int p, int v, int want) {
        Watched x = e.core(1);
        x.emit(0, Asm.SET, 0, before);
        for (int i = 1; i <= p; i++) {
            x.emit(0, Asm.SET, 0, 0);
        }
        x.due(1).run(1);
        x.due(before).digest(0);
        x.retarget(0, p, v);
        x.restart(0, p);
        x.due(1).run(1);
        x.due(want).digest(0);
    }

    private static void digestWraps(Edge e) {
        takesIn(e, 0, 0, GREATEST, GREATEST);
        takesIn(e, 0, 0, LEAST, LEAST);
        takesIn(e, 0, 1, GREATEST - 7, GREATEST);
        takesIn(e, 0, 1, GREATEST - 6, LEAST);
        takesIn(e, 0, 1, LEAST, LEAST + 7);
        takesIn(e, 0, 23, GREATEST - 161, GREATEST);
        takesIn(e, 0, 23, GREATEST - 160, LEAST);
        takesIn(e, 0, 23, GREATEST, LEAST + 160);
        takesIn(e, 69273666, 0, 0, GREATEST - 1);
        takesIn(e, 69273666, 0, 1, GREATEST);
        takesIn(e, 69273666, 0, 2, LEAST);
        takesIn(e, 69273667, 0, 0, LEAST + 29);
        takesIn(e, -69273666, 0, -2, LEAST);
        takesIn(e, -69273666, 0, -3, GREATEST);
        takesIn(e, -69273667, 0, 0, GREATEST - 28);
        takesIn(e, LEAST, 0, 0, LEAST);
        takesIn(e, GREATEST, 0, 0, GREATEST - 30);
        takesIn(e, GREATEST, 23, GREATEST, 129);
        takesIn(e, LEAST, 23, LEAST, 161);
    }

    /** 1 and 10 are the first and last of the row; 14 stands alone between two that write no register. */
    private static void digestOfWritten(Edge e) {
        int[] due = {0, 11, 9, 3, 18, 2, 2, 5, 6 << 11, 17, 314, 0, 0, 0, 3, 0};
        for (int op = Asm.SET; op <= Asm.CALL; op++) {
            if (op <= Asm.LOAD || op == Asm.CALL) {
                Watched x = e.at(2, op, 6, 3, op == Asm.LOAD ? 8 : 11);
                x.setMem(0, 14, 314);
                x.due(1).run(1);
                x.due(due[op]).reg(0, 5);
                x.due(14 + due[op]).digest(0);
            }
        }
    }

    private static void digestOfStore(Edge e) {
        int[][] cases = {{0, 0, 0}, {0, LEAST, LEAST}, {0, GREATEST, GREATEST}, {15, 0, 75}, {15, -75, 0},
            {15, GREATEST - 75, GREATEST}, {15, GREATEST - 74, LEAST}, {15, GREATEST, LEAST + 74},
            {15, LEAST, LEAST + 75}, {1, GREATEST - 5, GREATEST}, {1, GREATEST - 4, LEAST}};
        for (int[] one : cases) {
            Watched x = e.at(0, Asm.STORE, one[0], one[1], 0);
            x.due(1).run(1);
            x.due(one[2]).digest(0);
        }
    }

    private static void digestOfBranches(Edge e) {
        for (int next : new int[] {LEAST, -1, 0, 2, 24, GREATEST}) {
            entersDigest(e, Asm.BEQ, 4, 4, next, next);
            entersDigest(e, Asm.BEQ, 4, 5, next, 2);
            entersDigest(e, Asm.BLT, 4, 5, next, next);
            entersDigest(e, Asm.BLT, 5, 5, next, 2);
            entersDigest(e, Asm.JUMPR, next, 4, 9, next);
        }
    }

    private static void entersDigest(Edge e, int op, int a, int b, int imm, int next) {
        Watched x = e.at(1, op, a, b, imm);
        x.due(1).run(1);
        x.due(next).pc(0);
        x.due(7 + next).digest(0);
        x.due(555).reg(0, 5);
    }

    /** On the first and on the last instruction that code can have, after others have retired. */
    private static void stoppedCounter(Edge e) {
        int[][] stops = {{Asm.HALT, 0, SmtCore.HALTED}, {Asm.DIV, 0, SmtCore.DIVIDE_TRAP},
            {Asm.LOAD, -1, SmtCore.ADDRESS_TRAP}, {Asm.STORE, 16, SmtCore.ADDRESS_TRAP}};
        for (int[] stop : stops) {
            for (int p : new int[] {0, 1, 23}) {
                Watched x = e.core(1);
                for (int i = 0; i < p; i++) {
                    x.emit(0, Asm.SET, 7, i);
                }
                x.emit(0, stop[0], 0, stop[1]);
                x.due(p).run(40);
                x.due(p).pc(0);
                x.due(stop[2]).status(0);
                x.due(0).run(40);
                x.due(p).pc(0);
            }
        }
        Watched past = e.full();
        past.due(24).run(40);
        past.due(24).pc(0);
        past.due(SmtCore.PC_TRAP).status(0);
    }

    private static void sizeChangesNothing(Edge e) {
        int[] widths = {LEAST, 0, 1, 4, 5, GREATEST};
        int[] spares = {LEAST, 1, 2, 24, 25, GREATEST};
        int[] windows = {LEAST, 1, 2, 12, 13, GREATEST};
        String usual = answers(e.core(2, 2, 8, 8));
        for (int width : widths) {
            for (int spare : spares) {
                for (int window : windows) {
                    String size = width + ", " + spare + ", " + window;
                    e.alike("the calls with size " + size, answers(e.core(2, width, spare, window)), usual);
                }
            }
        }
    }

    /** Work that a core with small width, few spare registers or a short window could get wrong. */
    static String answers(Watched x) {
        for (int t = 0; t < 2; t++) {
            x.emit(t, Asm.SET, 1, 5 + t);
            for (int d = 2; d < 8; d++) {
                x.emit(t, Asm.ADD, Asm.regs(d, d - 1, 1), 0);
            }
            x.emit(t, Asm.STORE, Asm.regs(0, 1, 7), 3);
            x.emit(t, Asm.LOAD, Asm.regs(3, 1, 0), 3);
            x.emit(t, Asm.MUL, Asm.regs(4, 3, 2), 0);
            x.emit(t, Asm.ADDI, Asm.regs(1, 1, 0), -1);
            x.emit(t, Asm.BLT, Asm.regs(0, 0, 1), 1);
            x.emit(t, Asm.CALL, Asm.regs(6, 0, 0), 14);
            x.emit(t, Asm.DIV, Asm.regs(5, 4, 1), 0);
            x.emit(t, Asm.SET, Asm.regs(5, 0, 0), 1);
            x.emit(t, Asm.JUMPR, Asm.regs(0, 6, 0), 0);
        }
        StringBuilder all = new StringBuilder();
        for (int n : new int[] {0, 1, 2, 3, 5, 8, 13, 21, 40, 40}) {
            all.append(x.run(n)).append(' ').append(x.digest(0)).append(' ').append(x.digest(1)).append(' ');
        }
        all.append(x.state());
        x.setReg(0, 1, 9);
        x.restart(0, 13);
        all.append(" then ").append(x.runOne(0, 40)).append(' ').append(x.run(40));
        return all.append(' ').append(x.state()).toString();
    }
}
