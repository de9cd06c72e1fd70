import java.util.Arrays;

/** Promises 4 to 7: setReg, setMem, restart and reset. */
final class WriteEdges {
    private static final int LEAST = Asm.LEAST;
    private static final int GREATEST = Asm.GREATEST;
    private static final int[] VALUES = {LEAST, LEAST + 1, -1, 0, 1, GREATEST - 1, GREATEST};
    private static final int[] BAD_THREADS = {LEAST, -4, -1, 4, 5, GREATEST};

    private WriteEdges() {
    }

    static void add(Sentences s) {
        s.under("Promise 4: setReg");
        s.declares("int setReg(int thread, int r, int value)");
        s.holds("Writes a register.", WriteEdges::writesRegister);
        s.holds("Thread not good: BAD_THREAD;", WriteEdges::setRegThread);
        s.holds("r not in 0 to 7: BAD_INDEX;", WriteEdges::setRegIndex);
        s.holds("refused calls change nothing.", WriteEdges::refusedSetReg);
        s.holds("Else answers 0.", WriteEdges::setRegAnswers);
        s.under("Promise 5: setMem");
        s.declares("int setMem(int thread, int a, int value)");
        s.holds("Writes a memory cell.", WriteEdges::writesCell);
        s.holds("Thread not good: BAD_THREAD;", WriteEdges::setMemThread);
        s.holds("a not in 0 to 15: BAD_INDEX;", WriteEdges::setMemIndex);
        s.holds("refused calls change nothing.", WriteEdges::refusedSetMem);
        s.holds("Else answers 0.", WriteEdges::setMemAnswers);
        s.under("Promise 6: restart");
        s.declares("int restart(int thread, int pc)");
        s.holds("Sets the counter to pc (any int) and the status to RUNNING.", WriteEdges::restarts);
        s.holds("Thread not good: BAD_THREAD, nothing changes.", WriteEdges::refusedRestart);
        s.holds("Else answers 0.", WriteEdges::restartAnswers);
        s.under("Promise 7: reset");
        s.declares("int reset(int thread)");
        s.holds("Puts the thread back to how it started (no code, all 0, RUNNING).", WriteEdges::resets);
        s.holds("Thread not good: BAD_THREAD, nothing changes.", WriteEdges::refusedReset);
        s.holds("Else answers 0.", WriteEdges::resetAnswers);
    }

    private static void writesRegister(Edge e) {
        for (int value : VALUES) {
            for (int r : new int[] {0, 7}) {
                Watched x = e.busy();
                String[] parts = x.state(2).split(" ");
                x.setReg(2, r, value);
                parts[firstRegister(parts) + r] = String.valueOf(value);
                e.alike("setReg(2, " + r + ", " + value + ")", x.state(2), String.join(" ", parts));
            }
        }
    }

    private static int firstRegister(String[] parts) {
        return Arrays.asList(parts).indexOf("R") + 1;
    }

    private static void setRegThread(Edge e) {
        for (int threads = 1; threads <= 4; threads++) {
            Watched x = e.core(threads);
            x.due(0).setReg(0, 7, 5);
            x.due(0).setReg(threads - 1, 7, 5);
            for (int t : new int[] {LEAST, -1, threads, GREATEST}) {
                for (int r : new int[] {-1, 0, 7, 8}) {
                    x.due(SmtCore.BAD_THREAD).setReg(t, r, 5);
                }
            }
        }
    }

    private static void setRegIndex(Edge e) {
        Watched x = e.core(4);
        for (int t = 0; t < 4; t++) {
            x.due(0).setReg(t, 0, 5);
            x.due(0).setReg(t, 7, 5);
            for (int r : new int[] {LEAST, -8, -1, 8, 9, 16, GREATEST}) {
                x.due(SmtCore.BAD_INDEX).setReg(t, r, 5);
            }
        }
    }

    private static void refusedSetReg(Edge e) {
        e.changesNothing(e::busy, x -> {
            for (int t : BAD_THREADS) {
                x.setReg(t, 0, 9);
                x.setReg(t, 7, 9);
            }
            for (int t = 0; t < 4; t++) {
                for (int r : new int[] {LEAST, -8, -1, 8, 15, GREATEST}) {
                    x.setReg(t, r, 9);
                }
            }
        });
    }

    /** The answer is not the value, nor the value that stood there. */
    private static void setRegAnswers(Edge e) {
        Watched x = e.busy();
        for (int value : VALUES) {
            x.due(0).setReg(0, 0, value);
            x.due(0).setReg(3, 7, value);
        }
    }

    private static void writesCell(Edge e) {
        for (int value : VALUES) {
            for (int a : new int[] {0, 15}) {
                Watched x = e.busy();
                String[] parts = x.state(2).split(" ");
                x.setMem(2, a, value);
                parts[firstRegister(parts) + 9 + a] = String.valueOf(value);
                e.alike("setMem(2, " + a + ", " + value + ")", x.state(2), String.join(" ", parts));
            }
        }
    }

    private static void setMemThread(Edge e) {
        for (int threads = 1; threads <= 4; threads++) {
            Watched x = e.core(threads);
            x.due(0).setMem(0, 15, 5);
            x.due(0).setMem(threads - 1, 15, 5);
            for (int t : new int[] {LEAST, -1, threads, GREATEST}) {
                for (int a : new int[] {-1, 0, 15, 16}) {
                    x.due(SmtCore.BAD_THREAD).setMem(t, a, 5);
                }
            }
        }
    }

    private static void setMemIndex(Edge e) {
        Watched x = e.core(4);
        for (int t = 0; t < 4; t++) {
            x.due(0).setMem(t, 0, 5);
            x.due(0).setMem(t, 15, 5);
            for (int a : new int[] {LEAST, -16, -1, 16, 17, 32, GREATEST}) {
                x.due(SmtCore.BAD_INDEX).setMem(t, a, 5);
            }
        }
    }

    private static void refusedSetMem(Edge e) {
        e.changesNothing(e::busy, x -> {
            for (int t : BAD_THREADS) {
                x.setMem(t, 0, 9);
                x.setMem(t, 15, 9);
            }
            for (int t = 0; t < 4; t++) {
                for (int a : new int[] {LEAST, -16, -1, 16, 31, GREATEST}) {
                    x.setMem(t, a, 9);
                }
            }
        });
    }

    private static void setMemAnswers(Edge e) {
        Watched x = e.busy();
        for (int value : VALUES) {
            x.due(0).setMem(0, 0, value);
            x.due(0).setMem(3, 15, value);
        }
    }

    /** From each status, to the ends of int and to both sides of the code's ends; the rest stays. */
    private static void restarts(Edge e) {
        for (int status = SmtCore.RUNNING; status <= SmtCore.PC_TRAP; status++) {
            for (int pc : new int[] {LEAST, LEAST + 1, -1, 0, 1, 2, 23, 24, GREATEST - 1, GREATEST}) {
                Watched x = e.standing(status);
                String before = x.state();
                x.restart(0, pc);
                String due = before.replace("pc 1 status " + status, "pc " + pc + " status " + SmtCore.RUNNING);
                e.alike("restart(0, " + pc + ")", x.state(), due);
            }
        }
    }

    private static void refusedRestart(Edge e) {
        e.changesNothing(() -> stopped(e), x -> {
            for (int t : BAD_THREADS) {
                x.due(SmtCore.BAD_THREAD).restart(t, 0);
                x.due(SmtCore.BAD_THREAD).restart(t, LEAST);
            }
        });
        for (int threads = 1; threads <= 3; threads++) {
            Watched x = e.core(threads);
            x.due(0).restart(threads - 1, 3);
            x.due(SmtCore.BAD_THREAD).restart(threads, 3);
        }
    }

    /** The busy four, all of them halted. */
    private static Watched stopped(Edge e) {
        Watched x = e.busy();
        for (int t = 0; t < 4; t++) {
            x.emit(t, Asm.HALT, 0, 0);
            x.restart(t, 4);
        }
        x.run(1);
        return x;
    }

    private static void restartAnswers(Edge e) {
        Watched x = stopped(e);
        for (int pc : new int[] {LEAST, -1, 0, 4, 5, GREATEST}) {
            x.due(0).restart(0, pc);
            x.due(0).restart(3, pc);
        }
    }

    /** From empty and from full, from each status, with the ends of int in registers and cells. */
    private static void resets(Edge e) {
        String fresh = e.core(1).state();
        for (int status = SmtCore.RUNNING; status <= SmtCore.PC_TRAP; status++) {
            Watched x = e.standing(status);
            fillWith(x, LEAST);
            x.reset(0);
            e.alike("reset(0)", x.state(), fresh);
            x.reset(0);
            e.alike("reset(0) twice", x.state(), fresh);
            x.due(0).run(40);
            x.due(SmtCore.PC_TRAP).status(0);
            x.due(0).pc(0);
        }
        Watched full = e.full();
        full.restart(0, GREATEST);
        fillWith(full, GREATEST);
        full.reset(0);
        e.alike("reset(0) of full code", full.state(), fresh);
        full.due(SmtCore.BAD_INDEX).retarget(0, 0, 1);
        for (int i = 0; i < 24; i++) {
            full.due(i).emit(0, Asm.SET, 1, i);
        }
        full.due(SmtCore.CODE_FULL).emit(0, Asm.SET, 1, 24);
        full.due(24).run(40);
    }

    private static void fillWith(Watched x, int value) {
        for (int r = 0; r < 8; r++) {
            x.setReg(0, r, value);
        }
        for (int a = 0; a < 16; a++) {
            x.setMem(0, a, value);
        }
    }

    private static void refusedReset(Edge e) {
        e.changesNothing(() -> stopped(e), x -> {
            for (int t : BAD_THREADS) {
                x.due(SmtCore.BAD_THREAD).reset(t);
            }
        });
        for (int threads = 1; threads <= 3; threads++) {
            Watched x = e.core(threads);
            x.due(0).reset(threads - 1);
            x.due(SmtCore.BAD_THREAD).reset(threads);
        }
    }

    private static void resetAnswers(Edge e) {
        Watched x = stopped(e);
        for (int t = 0; t < 4; t++) {
            x.due(0).reset(t);
            x.due(0).reset(t);
        }
    }
}
