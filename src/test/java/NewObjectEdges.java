/** Promise 1: how a new object stands, and which threads are good. */
final class NewObjectEdges {
    private static final int LEAST = Asm.LEAST;
    private static final int GREATEST = Asm.GREATEST;
    private static final String NEW = "size 0 pc 0 status 0 retired 0 digest 0"
        + " R 0 0 0 0 0 0 0 0 M 0 0 0 0 0 0 0 0 0 0 0 0 0 0 0 0";

    private NewObjectEdges() {
    }

    static void add(Sentences s) {
        s.under("Promise 1: A new object");
        s.declares("SmtCore(int threads, int width, int spare, int window)");
        s.holds("threads is clamped into 1 to 4,", NewObjectEdges::threadsClamped);
        s.holds("width (instructions a cycle) into 1 to 4,", NewObjectEdges::widthClamped);
        s.holds("spare (physical registers beyond eight a thread) into 2 to 24,", NewObjectEdges::spareClamped);
        s.holds("window (instructions in flight a thread) into 2 to 12:", NewObjectEdges::windowClamped);
        s.holds("below the least becomes the least, above the greatest the greatest.",
            NewObjectEdges::clampedIsTheNearest);
        s.holds("Every thread starts with no code, all registers and memory cells 0, counter 0, status RUNNING,"
            + " no retired instruction, digest 0.", NewObjectEdges::startsEmpty);
        s.holds("In every call below, 'thread' is good if it lies in 0 to threads - 1.", NewObjectEdges::goodThreads);
    }

    private static void threadsClamped(Edge e) {
        int[][] cases = {{LEAST, 1}, {-1, 1}, {0, 1}, {1, 1}, {2, 2}, {3, 3}, {4, 4}, {5, 4}, {GREATEST, 4}};
        for (int[] one : cases) {
            Watched x = e.core(one[0]);
            for (int t = 0; t < 5; t++) {
                x.due(t < one[1] ? 0 : SmtCore.BAD_THREAD).emit(t, Asm.SET, 1, 9);
            }
            x.due(one[1]).run(1);
        }
    }

    private static void widthClamped(Edge e) {
        String usual = StepEdges.answers(e.core(2));
        int[][] cases = {{LEAST, 1}, {-1, 1}, {0, 1}, {1, 1}, {2, 2}, {3, 3}, {4, 4}, {5, 4}, {GREATEST, 4}};
        for (int[] one : cases) {
            keeps(e, new SmtCore(2, one[0], 8, 8), "width", one[1]);
            e.alike("width " + one[0], StepEdges.answers(e.core(2, one[0], 8, 8)), usual);
        }
    }

    private static void spareClamped(Edge e) {
        String usual = StepEdges.answers(e.core(2));
        int[][] cases = {{LEAST, 2}, {-1, 2}, {0, 2}, {1, 2}, {2, 2}, {3, 3}, {23, 23}, {24, 24}, {25, 24},
            {GREATEST, 24}};
        for (int[] one : cases) {
            keeps(e, new SmtCore(2, 2, one[0], 8), "spare", one[1]);
            e.alike("spare " + one[0], StepEdges.answers(e.core(2, 2, one[0], 8)), usual);
        }
    }

    private static void windowClamped(Edge e) {
        String usual = StepEdges.answers(e.core(2));
        int[][] cases = {{LEAST, 2}, {-1, 2}, {0, 2}, {1, 2}, {2, 2}, {3, 3}, {11, 11}, {12, 12}, {13, 12},
            {GREATEST, 12}};
        for (int[] one : cases) {
            keeps(e, new SmtCore(2, 2, 8, one[0]), "window", one[1]);
            e.alike("window " + one[0], StepEdges.answers(e.core(2, 2, 8, one[0])), usual);
        }
    }

    /** No answer tells how the core's size was clamped, so this looks at the field that the class keeps it in. */
    private static void keeps(Edge e, SmtCore core, String name, int due) {
        int kept = Inside.number(core, name);
        e.right(kept == due, () -> name + " is kept as " + kept + ", due is " + due);
    }

    /** All four at once. */
    private static void clampedIsTheNearest(Edge e) {
        int[][] cases = {{LEAST, 1, 1, 2, 2}, {0, 1, 1, 2, 2}, {3, 3, 3, 3, 3}, {25, 4, 4, 24, 12},
            {GREATEST, 4, 4, 24, 12}};
        for (int[] one : cases) {
            SmtCore core = new SmtCore(one[0], one[0], one[0], one[0]);
            keeps(e, core, "threads", one[1]);
            keeps(e, core, "width", one[2]);
            keeps(e, core, "spare", one[3]);
            keeps(e, core, "window", one[4]);
            Watched x = e.core(one[0], one[0], one[0], one[0]);
            x.due(SmtCore.RUNNING).status(one[1] - 1);
            x.due(SmtCore.BAD_THREAD).status(one[1]);
        }
    }

    private static void startsEmpty(Edge e) {
        for (int threads = 1; threads <= 4; threads++) {
            Watched x = e.core(threads);
            for (int t = 0; t < threads; t++) {
                e.alike("new SmtCore(" + threads + ", ..), thread " + t, x.state(t), NEW);
                x.due(SmtCore.BAD_INDEX).retarget(t, 0, 1);
            }
            x.due(0).run(1);
            x.due(SmtCore.PC_TRAP).status(threads - 1);
        }
    }

    private static void goodThreads(Edge e) {
        for (int threads = 1; threads <= 4; threads++) {
            Watched x = e.core(threads);
            for (int t = 0; t < threads; t++) {
                takes(x, t);
            }
            for (int t : new int[] {LEAST, -4, -1, threads, threads + 1, 4, GREATEST}) {
                refuses(x, t);
            }
            for (int t = 0; t < threads; t++) {
                x.due(0).reset(t);
            }
        }
    }

    /** Leaves nothing 0, so that a bad thread that is taken for this one can't answer 0. */
    private static void takes(Watched x, int t) {
        x.due(0).emit(t, Asm.SET, 1, 5);
        x.due(0).retarget(t, 0, 6);
        x.due(0).setReg(t, 0, 7);
        x.due(0).setMem(t, 0, 8);
        x.due(0).restart(t, 0);
        x.due(1).runOne(t, 1);
        x.due(6).reg(t, 1);
        x.due(8).mem(t, 0);
        x.due(1).pc(t);
        x.due(SmtCore.RUNNING).status(t);
        x.due(1).retired(t);
        x.due(6).digest(t);
        x.due(1).size(t);
    }

    private static void refuses(Watched x, int t) {
        x.due(SmtCore.BAD_THREAD).emit(t, Asm.SET, 1, 5);
        x.due(SmtCore.BAD_THREAD).retarget(t, 0, 6);
        x.due(SmtCore.BAD_THREAD).setReg(t, 0, 7);
        x.due(SmtCore.BAD_THREAD).setMem(t, 0, 8);
        x.due(SmtCore.BAD_THREAD).restart(t, 0);
        x.due(SmtCore.BAD_THREAD).runOne(t, 1);
        x.due(0).reg(t, 1);
        x.due(0).mem(t, 0);
        x.due(0).pc(t);
        x.due(SmtCore.BAD_THREAD).status(t);
        x.due(0).retired(t);
        x.due(0).digest(t);
        x.due(0).size(t);
        x.due(SmtCore.BAD_THREAD).reset(t);
    }
}
