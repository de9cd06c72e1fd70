/** Promises 8 and 9: run and runOne. */
final class RunEdges {
    private static final int LEAST = Asm.LEAST;
    private static final int GREATEST = Asm.GREATEST;
    /** What n counts as. */
    private static final int[][] STEPS = {{LEAST, 0}, {LEAST + 1, 0}, {-41, 0}, {-40, 0}, {-2, 0}, {-1, 0}, {0, 0},
        {1, 1}, {2, 2}, {39, 39}, {40, 40}, {41, 40}, {42, 40}, {80, 40}, {GREATEST - 1, 40}, {GREATEST, 40}};

    private RunEdges() {
    }

    static void add(Sentences s) {
        s.under("Promise 8: run");
        s.declares("int run(int n)");
        s.holds("n below 0 counts as 0, above 40 as 40.", RunEdges::clampsSteps);
        s.holds("Every thread makes steps as long as its status is RUNNING and it has made fewer than n steps in this"
            + " call.", RunEdges::fewerThanN);
        s.holds("Answers how many instructions retired in this call, over all threads.", RunEdges::answersRetired);
        s.under("Promise 9: runOne");
        s.declares("int runOne(int thread, int n)");
        s.holds("As run(n), but only the named thread makes steps.", RunEdges::onlyTheNamed);
        s.holds("Thread not good: BAD_THREAD, nothing changes.", RunEdges::refusedRunOne);
    }

    /** Never stops by itself; R[1] counts its rounds of two instructions. */
    private static void loop(Watched x, int t) {
        x.emit(t, Asm.ADDI, Asm.regs(1, 1, 0), 1);
        x.emit(t, Asm.BEQ, 0, 0);
    }

    private static void clampsSteps(Edge e) {
        for (int[] one : STEPS) {
            Watched x = e.core(1);
            loop(x, 0);
            String before = x.state();
            x.due(one[1]).run(one[0]);
            x.due(one[1]).retired(0);
            x.due(one[1] % 2).pc(0);
            x.due((one[1] + 1) / 2).reg(0, 1);
            if (one[1] == 0) {
                e.alike("run(" + one[0] + ")", x.state(), before);
            }
            Watched empty = e.core(1);
            empty.due(0).run(one[0]);
            empty.due(one[1] == 0 ? SmtCore.RUNNING : SmtCore.PC_TRAP).status(0);
        }
    }

    private static void fewerThanN(Edge e) {
        for (int retiring : new int[] {0, 1, 2, 23}) {
            haltsAfter(e, retiring, retiring, SmtCore.RUNNING);
            haltsAfter(e, retiring, retiring + 1, SmtCore.HALTED);
            haltsAfter(e, retiring, 40, SmtCore.HALTED);
        }
        countdown(e, 19, 40, 39, SmtCore.HALTED);
        countdown(e, 19, 39, 39, SmtCore.RUNNING);
        countdown(e, 20, 40, 40, SmtCore.RUNNING);
        countdown(e, 20, 41, 40, SmtCore.RUNNING);
        countsInEachCall(e);
        countsForEachThread(e);
    }

    /** So many instructions retire, then HALT; the step that stops counts as one of the n. */
    private static void haltsAfter(Edge e, int retiring, int n, int status) {
        Watched x = e.core(1);
        for (int i = 0; i < retiring; i++) {
            x.emit(0, Asm.SET, 1, i);
        }
        x.emit(0, Asm.HALT, 0, 0);
        x.due(retiring).run(n);
        x.due(status).status(0);
        x.due(retiring).pc(0);
    }

    /** One instruction, then two for each round, then HALT. */
    private static void countdown(Edge e, int rounds, int n, int retired, int status) {
        Watched x = e.core(1);
        x.emit(0, Asm.SET, 1, rounds);
        x.emit(0, Asm.ADDI, Asm.regs(1, 1, 0), -1);
        x.emit(0, Asm.BLT, Asm.regs(0, 0, 1), 1);
        x.emit(0, Asm.HALT, 0, 0);
        x.due(retired).run(n);
        x.due(status).status(0);
    }

    private static void countsInEachCall(Edge e) {
        Watched x = e.core(1);
        loop(x, 0);
        for (int call = 1; call <= 3; call++) {
            x.due(40).run(40);
            x.due(40 * call).retired(0);
        }
        x.due(1).run(1);
        x.due(121).retired(0);
    }

    /** One thread's stop takes nothing from the others, nor do the others' steps. */
    private static void countsForEachThread(Edge e) {
        for (int stopping = 0; stopping < 4; stopping++) {
            Watched x = e.core(4);
            for (int t = 0; t < 4; t++) {
                if (t == stopping) {
                    x.emit(t, Asm.HALT, 0, 0);
                } else {
                    loop(x, t);
                }
            }
            x.due(120).run(40);
            for (int t = 0; t < 4; t++) {
                x.due(t == stopping ? 0 : 40).retired(t);
                x.due(t == stopping ? SmtCore.HALTED : SmtCore.RUNNING).status(t);
            }
        }
    }

    private static void answersRetired(Edge e) {
        for (int threads = 1; threads <= 4; threads++) {
            Watched x = e.core(threads);
            for (int t = 0; t < threads; t++) {
                loop(x, t);
            }
            x.due(0).run(0);
            x.due(threads).run(1);
            x.due(40 * threads).run(40);
            x.due(40 * threads).run(GREATEST);
            x.due(0).run(LEAST);
        }
        Watched stopping = e.core(4);
        stopping.emit(0, Asm.HALT, 0, 0);
        stopping.emit(1, Asm.DIV, 0, 0);
        stopping.emit(2, Asm.LOAD, 0, -1);
        stopping.due(0).run(40);
        stopping.due(0).run(40);
        stopping.restart(3, 0);
        stopping.emit(3, Asm.SET, 1, 1);
        stopping.due(1).run(40);
        stopping.due(0).run(40);
    }

    private static void onlyTheNamed(Edge e) {
        for (int[] one : STEPS) {
            for (int named : new int[] {0, 3}) {
                Watched x = e.core(4);
                for (int t = 0; t < 4; t++) {
                    loop(x, t);
                }
                x.due(one[1]).runOne(named, one[0]);
                for (int t = 0; t < 4; t++) {
                    x.due(t == named ? one[1] : 0).retired(t);
                    x.due(t == named ? one[1] % 2 : 0).pc(t);
                    x.due(SmtCore.RUNNING).status(t);
                }
            }
            Watched empty = e.core(2);
            empty.due(0).runOne(1, one[0]);
            empty.due(one[1] == 0 ? SmtCore.RUNNING : SmtCore.PC_TRAP).status(1);
            empty.due(SmtCore.RUNNING).status(0);
        }
        for (int n : new int[] {0, 1, 2, 3}) {
            Watched halting = e.core(1);
            halting.emit(0, Asm.SET, 1, 1);
            halting.emit(0, Asm.SET, 1, 2);
            halting.emit(0, Asm.HALT, 0, 0);
            halting.due(Math.min(n, 2)).runOne(0, n);
            halting.due(n == 3 ? SmtCore.HALTED : SmtCore.RUNNING).status(0);
        }
    }

    private static void refusedRunOne(Edge e) {
        e.changesNothing(e::busy, x -> {
            for (int t : new int[] {LEAST, -4, -1, 4, 5, GREATEST}) {
                for (int n : new int[] {LEAST, -1, 0, 1, 40, 41, GREATEST}) {
                    x.due(SmtCore.BAD_THREAD).runOne(t, n);
                }
            }
        });
        for (int threads = 1; threads <= 3; threads++) {
            Watched x = e.core(threads);
            loop(x, threads - 1);
            x.due(40).runOne(threads - 1, 40);
            x.due(SmtCore.BAD_THREAD).runOne(threads, 40);
        }
    }
}
