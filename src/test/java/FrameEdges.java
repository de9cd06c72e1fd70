/** What stands around the promises: what the thing is, and what is not promised. */
final class FrameEdges {
    private FrameEdges() {
    }

    static void add(Sentences s) {
        s.under("What it is");
        s.holds("A processor core that runs one to four threads.", FrameEdges::oneToFourThreads);
        s.holds("An object is used for at most 512 calls after it has been made", FrameEdges::call512IsGood);
        s.plain("what later calls answer is free.");
        s.under("Not promised");
        s.plain("How the state is held inside the object is free, as are the speed of each call, the text of toString"
            + " and the behaviour of equals and hashCode.");
        s.plain("Use of one object from several threads at once is not promised to be safe.");
        s.plain("Nothing is promised beyond the answers and state changes described above, and nothing about an"
            + " object after its 512th call.");
    }

    private static void oneToFourThreads(Edge e) {
        Watched least = e.core(1);
        least.emit(0, Asm.SET, 1, 5);
        least.due(1).run(40);
        least.due(SmtCore.BAD_THREAD).runOne(1, 1);
        Watched most = e.core(4);
        for (int t = 0; t < 4; t++) {
            most.emit(t, Asm.SET, 1, 5);
        }
        most.due(4).run(40);
        most.due(SmtCore.BAD_THREAD).runOne(4, 1);
    }

    private static void call512IsGood(Edge e) {
        Watched x = e.core(4);
        x.emit(3, Asm.ADDI, Asm.regs(7, 7, 0), 1);
        x.emit(3, Asm.BEQ, 0, 0);
        int runs = 0;
        while (x.calls() < Watched.MOST_CALLS - 2) {
            x.due(40).runOne(3, 40);
            runs++;
        }
        x.due(40 * runs).retired(3);
        x.due(20 * runs).reg(3, 7);
        e.right(x.calls() == Watched.MOST_CALLS, () -> "the test itself: " + x.calls() + " calls");
    }
}
