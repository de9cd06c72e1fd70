/** Promises 2 and 3: emit and retarget. */
final class CodeEdges {
    private static final int LEAST = Asm.LEAST;
    private static final int GREATEST = Asm.GREATEST;
    private static final int[] BAD_THREADS = {LEAST, -1, 4, GREATEST};
    private static final int[] BAD_OPS = {LEAST, -1, 16, GREATEST};
    private static final int[] BAD_REGS = {LEAST, -1, 512, GREATEST};

    private CodeEdges() {
    }

    static void add(Sentences s) {
        s.under("Promise 2: emit");
        s.declares("int emit(int thread, int op, int regs, int imm)");
        s.holds("Appends an instruction to the thread's code.", CodeEdges::appends);
        s.holds("Tests in this order:", CodeEdges::orderOfTests);
        s.holds("thread not good: BAD_THREAD;", CodeEdges::emitThread);
        s.holds("op not in 0 to 15: BAD_OP;", CodeEdges::emitOp);
        s.holds("regs not in 0 to 511: BAD_REGS;", CodeEdges::emitRegs);
        s.holds("the code has 24 instructions: CODE_FULL.", CodeEdges::emitFull);
        s.holds("A refused call changes nothing.", CodeEdges::refusedEmit);
        s.holds("Else answers the index of the new instruction.", CodeEdges::emitAnswers);
        s.holds("Allowed in any status; changes neither status nor counter.", CodeEdges::emitInAnyStatus);
        s.under("Promise 3: retarget");
        s.declares("int retarget(int thread, int index, int imm)");
        s.holds("Gives instruction 'index' of the thread a new constant.", CodeEdges::newConstant);
        s.holds("Thread not good: BAD_THREAD;", CodeEdges::retargetThread);
        s.holds("index not in 0 to size - 1: BAD_INDEX;", CodeEdges::retargetIndex);
        s.holds("refused calls change nothing.", CodeEdges::refusedRetarget);
        s.holds("Else answers index.", CodeEdges::retargetAnswers);
    }

    /** The first and the last instruction that fit are the ones carried out at 0 and 23. */
    private static void appends(Edge e) {
        Watched x = e.core(1);
        for (int i = 0; i < 24; i++) {
            x.due(i).size(0);
            x.emit(0, Asm.SET, 1, 100 + i);
        }
        x.due(24).size(0);
        for (int i = 0; i < 24; i++) {
            x.due(1).run(1);
            x.due(100 + i).reg(0, 1);
        }
        x.due(0).run(1);
    }

    /** Each set of faults at once, on code that is full and on code that isn't. */
    private static void orderOfTests(Edge e) {
        for (int faults = 0; faults < 16; faults++) {
            boolean isFull = (faults & 1) != 0;
            Watched x = isFull ? e.full() : e.core(1);
            int due = isFull ? SmtCore.CODE_FULL : 0;
            due = (faults & 2) != 0 ? SmtCore.BAD_REGS : due;
            due = (faults & 4) != 0 ? SmtCore.BAD_OP : due;
            due = (faults & 8) != 0 ? SmtCore.BAD_THREAD : due;
            for (int i = 0; i < 4; i++) {
                int thread = (faults & 8) != 0 ? new int[] {LEAST, -1, 1, GREATEST}[i] : 0;
                int op = (faults & 4) != 0 ? BAD_OPS[3 - i] : 15;
                int regs = (faults & 2) != 0 ? BAD_REGS[i] : 511;
                x.due(faults == 0 ? i : due).emit(thread, op, regs, i);
            }
        }
    }

    private static void emitThread(Edge e) {
        for (int threads = 1; threads <= 4; threads++) {
            Watched x = e.core(threads);
            x.due(SmtCore.BAD_THREAD).emit(LEAST, 1, 1, 1);
            x.due(SmtCore.BAD_THREAD).emit(-1, 1, 1, 1);
            x.due(0).emit(0, 1, 1, 1);
            x.due(threads == 1 ? 1 : 0).emit(threads - 1, 1, 1, 1);
            x.due(SmtCore.BAD_THREAD).emit(threads, 1, 1, 1);
            x.due(SmtCore.BAD_THREAD).emit(GREATEST, 1, 1, 1);
        }
    }

    private static void emitOp(Edge e) {
        Watched x = e.core(1);
        for (int op : BAD_OPS) {
            x.due(SmtCore.BAD_OP).emit(0, op, 0, 0);
        }
        x.due(SmtCore.BAD_OP).emit(0, -16, 0, 0);
        x.due(SmtCore.BAD_OP).emit(0, 17, 0, 0);
        x.due(0).emit(0, 0, 0, 0);
        x.due(1).emit(0, 15, 0, 0);
    }

    private static void emitRegs(Edge e) {
        Watched x = e.core(1);
        for (int regs : BAD_REGS) {
            x.due(SmtCore.BAD_REGS).emit(0, 1, regs, 0);
        }
        x.due(SmtCore.BAD_REGS).emit(0, 1, -512, 0);
        x.due(SmtCore.BAD_REGS).emit(0, 1, 513, 0);
        x.due(0).emit(0, 1, 0, 0);
        x.due(1).emit(0, 1, 511, 0);
    }

    private static void emitFull(Edge e) {
        Watched x = e.core(2);
        for (int i = 0; i < 23; i++) {
            x.emit(1, Asm.SET, 1, i);
        }
        x.due(23).emit(1, Asm.SET, 1, 23);
        x.due(SmtCore.CODE_FULL).emit(1, Asm.SET, 1, 24);
        x.due(SmtCore.CODE_FULL).emit(1, Asm.HALT, 0, 0);
        x.due(0).emit(0, Asm.SET, 1, 0);
        x.reset(1);
        x.due(0).emit(1, Asm.SET, 1, 0);
    }

    private static void refusedEmit(Edge e) {
        e.changesNothing(e::busy, x -> {
            for (int i = 0; i < 4; i++) {
                x.emit(BAD_THREADS[i], Asm.SET, 1, 9);
                x.emit(i, BAD_OPS[i], 1, 9);
                x.emit(i, Asm.SET, BAD_REGS[i], 9);
            }
        });
        e.changesNothing(e::full, x -> {
            x.due(SmtCore.CODE_FULL).emit(0, Asm.SET, 1, 9);
            x.due(SmtCore.CODE_FULL).emit(0, Asm.HALT, 511, GREATEST);
            x.due(SmtCore.BAD_OP).emit(0, 16, 1, 9);
            x.due(SmtCore.BAD_REGS).emit(0, Asm.SET, 512, 9);
        });
        Watched next = e.core(1);
        next.emit(0, 16, 1, 9);
        next.emit(0, Asm.SET, 512, 9);
        next.due(0).emit(0, Asm.SET, 1, 5);
        next.due(1).run(40);
        next.due(5).reg(0, 1);
    }

    private static void emitAnswers(Edge e) {
        Watched x = e.core(4);
        for (int i = 0; i < 24; i++) {
            x.due(i).emit(3, Asm.SET, 1, GREATEST);
        }
        x.due(0).emit(2, Asm.SET, 1, LEAST);
        x.due(1).emit(2, Asm.SET, 1, LEAST);
    }

    /** From each status to full code and beyond: emit takes and refuses without moving the thread. */
    private static void emitInAnyStatus(Edge e) {
        for (int status = SmtCore.RUNNING; status <= SmtCore.PC_TRAP; status++) {
            Watched x = e.standing(status);
            for (int size = x.size(0); size <= 24; size++) {
                x.due(size == 24 ? SmtCore.CODE_FULL : size).emit(0, Asm.SET, 1, 1);
                x.due(status).status(0);
                x.due(1).pc(0);
            }
        }
    }

    /** The constant and nothing else: operation and registers stay, and so does every other instruction. */
    private static void newConstant(Edge e) {
        for (int index : new int[] {0, 1, 22, 23}) {
            for (int imm : new int[] {LEAST, -1, 0, 1, GREATEST}) {
                Watched x = e.full();
                x.retarget(0, index, imm);
                for (int i = 0; i < 24; i++) {
                    int source = 50 + i;
                    x.restart(0, i);
                    x.setReg(0, (i + 1) % 8, source);
                    x.due(1).run(1);
                    x.due(source + (i == index ? imm : 1000 + i)).reg(0, i % 8);
                }
                x.due(24).size(0);
            }
        }
    }

    private static void retargetThread(Edge e) {
        for (int threads = 1; threads <= 4; threads++) {
            Watched x = e.core(threads);
            for (int t = 0; t < threads; t++) {
                x.emit(t, Asm.SET, 1, 1);
                x.due(0).retarget(t, 0, 5);
            }
            for (int t : new int[] {LEAST, -1, threads, GREATEST}) {
                x.due(SmtCore.BAD_THREAD).retarget(t, 0, 5);
                x.due(SmtCore.BAD_THREAD).retarget(t, -1, 5);
                x.due(SmtCore.BAD_THREAD).retarget(t, 24, 5);
            }
        }
    }

    private static void retargetIndex(Edge e) {
        Watched x = e.core(2);
        x.emit(1, Asm.SET, 1, 1);
        for (int size = 0; size <= 24; size++) {
            for (int index : new int[] {LEAST, -1, size, 24, GREATEST}) {
                x.due(SmtCore.BAD_INDEX).retarget(0, index, 5);
            }
            if (size > 0) {
                x.due(0).retarget(0, 0, 5);
                x.due(size - 1).retarget(0, size - 1, 5);
            }
            x.emit(0, Asm.SET, 1, 1);
        }
        x.reset(0);
        x.due(SmtCore.BAD_INDEX).retarget(0, 0, 5);
    }

    private static void refusedRetarget(Edge e) {
        e.changesNothing(e::busy, x -> {
            for (int t : BAD_THREADS) {
                x.due(SmtCore.BAD_THREAD).retarget(t, 0, 9);
            }
            for (int index : new int[] {LEAST, -1, 4, 5, 23, 24, GREATEST}) {
                for (int t = 0; t < 4; t++) {
                    x.due(SmtCore.BAD_INDEX).retarget(t, index, 9);
                }
            }
        });
        e.changesNothing(e::full, x -> {
            x.due(SmtCore.BAD_INDEX).retarget(0, -1, 9);
            x.due(SmtCore.BAD_INDEX).retarget(0, 24, 9);
        });
        // What was refused for index 0 must not come back with the instruction that is appended there.
        Watched x = e.core(1);
        x.due(SmtCore.BAD_INDEX).retarget(0, 0, 9);
        x.emit(0, Asm.SET, 1, 5);
        x.due(1).run(1);
        x.due(5).reg(0, 1);
    }

    private static void retargetAnswers(Edge e) {
        Watched x = e.full();
        for (int index = 0; index < 24; index++) {
            x.due(index).retarget(0, index, LEAST);
            x.due(index).retarget(0, index, GREATEST);
        }
    }
}
