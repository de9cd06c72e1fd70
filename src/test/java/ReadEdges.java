/** Promises 10 to 16: the calls that only read. */
final class ReadEdges {
    private static final int LEAST = Asm.LEAST;
    private static final int GREATEST = Asm.GREATEST;
    private static final int[] VALUES = {LEAST, LEAST + 1, -1, 0, 1, GREATEST - 1, GREATEST};
    private static final int[] BAD_THREADS = {LEAST, -4, -1, 4, 5, GREATEST};

    private ReadEdges() {
    }

    static void add(Sentences s) {
        s.under("Promise 10: reg");
        s.declares("int reg(int thread, int r)");
        s.holds("The register's value; 0 if the thread is not good or r is not in 0 to 7.", ReadEdges::register);
        s.holds("Changes nothing (nor do the calls below).", ReadEdges::readingChangesNothing);
        s.under("Promise 11: mem");
        s.declares("int mem(int thread, int a)");
        s.holds("The memory cell's value; 0 if the thread is not good or a is not in 0 to 15.", ReadEdges::cell);
        s.under("Promise 12: pc");
        s.declares("int pc(int thread)");
        s.holds("The counter; 0 if the thread is not good.", ReadEdges::counter);
        s.under("Promise 13: status");
        s.declares("int status(int thread)");
        s.holds("The status; BAD_THREAD if the thread is not good.", ReadEdges::status);
        s.under("Promise 14: retired");
        s.declares("int retired(int thread)");
        s.holds("How many instructions retired since the start or the last reset (wrapping);", ReadEdges::retired);
        s.holds("0 if the thread is not good.", ReadEdges::retiredOfNoThread);
        s.under("Promise 15: digest");
        s.declares("int digest(int thread)");
        s.holds("The digest; 0 if the thread is not good.", ReadEdges::digest);
        s.under("Promise 16: size");
        s.declares("int size(int thread)");
        s.holds("How many instructions the thread's code has; 0 if the thread is not good.", ReadEdges::size);
    }

    private static void register(Edge e) {
        for (int value : VALUES) {
            Watched x = e.busy();
            for (int r : new int[] {0, 7}) {
                x.setReg(0, r, value);
                x.due(value).reg(0, r);
                x.setReg(3, r, value);
                x.due(value).reg(3, r);
            }
        }
        Watched x = e.busy();
        for (int t = 0; t < 4; t++) {
            for (int r : new int[] {LEAST, -8, -1, 8, 15, 16, GREATEST}) {
                x.due(0).reg(t, r);
            }
        }
        for (int t : BAD_THREADS) {
            for (int r : new int[] {LEAST, -1, 0, 7, 8, GREATEST}) {
                x.due(0).reg(t, r);
            }
        }
    }

    private static void cell(Edge e) {
        for (int value : VALUES) {
            Watched x = e.busy();
            for (int a : new int[] {0, 15}) {
                x.setMem(0, a, value);
                x.due(value).mem(0, a);
                x.setMem(3, a, value);
                x.due(value).mem(3, a);
            }
        }
        Watched x = e.busy();
        for (int t = 0; t < 4; t++) {
            for (int a : new int[] {LEAST, -16, -1, 16, 31, 32, GREATEST}) {
                x.due(0).mem(t, a);
            }
        }
        for (int t : BAD_THREADS) {
            for (int a : new int[] {LEAST, -1, 0, 15, 16, GREATEST}) {
                x.due(0).mem(t, a);
            }
        }
    }

    private static void readingChangesNothing(Edge e) {
        e.changesNothing(e::busy, ReadEdges::readAtTheEnds);
        // One of the two is read only at the very end, so that a change that every read makes shows as well.
        Watched read = summing(e);
        Watched unread = summing(e);
        readAtTheEnds(read);
        read.due(unread.run(40)).run(40);
        for (int t = 0; t < 4; t++) {
            read.due(unread.digest(t)).digest(t);
        }
    }

    private static void readAtTheEnds(Watched x) {
        for (int t : new int[] {LEAST, -1, 0, 3, 4, GREATEST}) {
            for (int place : new int[] {LEAST, -1, 0, 7, 8, 15, 16, GREATEST}) {
                x.reg(t, place);
                x.mem(t, place);
            }
            x.pc(t);
            x.status(t);
            x.retired(t);
            x.digest(t);
            x.size(t);
        }
    }

    /** The busy four, about to take their first and last register and cell into the digest. */
    private static Watched summing(Edge e) {
        Watched x = e.busy();
        for (int t = 0; t < 4; t++) {
            x.emit(t, Asm.ADD, Asm.regs(5, 0, 7), 0);
            x.emit(t, Asm.LOAD, Asm.regs(5, 3, 0), 0);
            x.emit(t, Asm.LOAD, Asm.regs(5, 3, 0), 15);
            x.restart(t, 4);
        }
        return x;
    }

    private static void counter(Edge e) {
        Watched x = e.busy();
        for (int pc : VALUES) {
            x.restart(0, pc);
            x.due(pc).pc(0);
            x.restart(3, pc);
            x.due(pc).pc(3);
        }
        for (int t : BAD_THREADS) {
            x.due(0).pc(t);
        }
    }

    private static void status(Edge e) {
        Watched x = e.core(4);
        x.emit(0, Asm.HALT, 0, 0);
        x.emit(1, Asm.DIV, 0, 0);
        x.emit(2, Asm.LOAD, 0, -1);
        for (int t = 0; t < 4; t++) {
            x.due(SmtCore.RUNNING).status(t);
        }
        x.run(1);
        x.due(SmtCore.HALTED).status(0);
        x.due(SmtCore.DIVIDE_TRAP).status(1);
        x.due(SmtCore.ADDRESS_TRAP).status(2);
        x.due(SmtCore.PC_TRAP).status(3);
        for (int t : BAD_THREADS) {
            x.due(SmtCore.BAD_THREAD).status(t);
        }
        for (int threads = 1; threads <= 3; threads++) {
            Watched fewer = e.core(threads);
            fewer.due(SmtCore.RUNNING).status(threads - 1);
            fewer.due(SmtCore.BAD_THREAD).status(threads);
        }
    }

    /** Neither a restart nor a stop sets it back, only a reset does; StepEdges has the wrap. */
    private static void retired(Edge e) {
        Watched x = e.core(2);
        x.due(0).retired(0);
        x.emit(0, Asm.SET, 1, 1);
        x.due(0).retired(0);
        x.run(1);
        x.due(1).retired(0);
        x.run(1);
        x.due(1).retired(0);
        x.restart(0, 0);
        x.due(1).retired(0);
        x.run(40);
        x.due(2).retired(0);
        x.reset(1);
        x.due(2).retired(0);
        x.reset(0);
        x.due(0).retired(0);
        x.emit(0, Asm.BEQ, 0, 0);
        int due = 0;
        while (x.calls() < Watched.MOST_CALLS - 1) {
            due += x.due(40).runOne(0, 40);
        }
        x.due(due).retired(0);
        Watched wrapped = e.busy();
        for (int count : VALUES) {
            wrapped.putRetired(3, count);
            wrapped.due(count).retired(3);
            wrapped.due(6).retired(0);
        }
    }

    private static void retiredOfNoThread(Edge e) {
        Watched x = e.busy();
        x.due(6).retired(0);
        x.due(6).retired(3);
        for (int t : BAD_THREADS) {
            x.due(0).retired(t);
        }
    }

    private static void digest(Edge e) {
        for (int value : VALUES) {
            Watched x = e.core(4);
            for (int t = 0; t < 4; t++) {
                x.due(0).digest(t);
                x.emit(t, Asm.SET, 1, value);
            }
            x.run(40);
            x.due(value).digest(0);
            x.due(value).digest(3);
            for (int t : BAD_THREADS) {
                x.due(0).digest(t);
            }
            x.restart(0, 0);
            x.due(value).digest(0);
            x.reset(0);
            x.due(0).digest(0);
        }
    }

    private static void size(Edge e) {
        Watched x = e.core(4);
        x.due(0).size(0);
        x.emit(0, Asm.SET, 1, 0);
        x.due(1).size(0);
        for (int i = 0; i < 24; i++) {
            x.due(i).size(3);
            x.emit(3, Asm.SET, 1, i);
        }
        x.due(24).size(3);
        x.due(SmtCore.CODE_FULL).emit(3, Asm.SET, 1, 24);
        x.due(24).size(3);
        x.due(1).size(0);
        x.run(40);
        x.due(24).size(3);
        for (int t : BAD_THREADS) {
            x.due(0).size(t);
        }
        x.reset(3);
        x.due(0).size(3);
    }
}
