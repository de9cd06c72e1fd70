public final class Promise09RunOneTest {
    private static final Due DUE = new Due("promise 9");

    public static void main(String[] args) {
        runsOnlyTheNamed();
        clampsSteps();
        isAsRun();
        refuses();
        DUE.end();
    }

    private static void runsOnlyTheNamed() {
        for (int named = 0; named < 4; named++) {
            SmtCore x = Asm.busyFour();
            String[] before = new String[4];
            for (int t = 0; t < 4; t++) {
                before[t] = Asm.read(x, t);
            }
            DUE.same("runOne(" + named + ", 7)", x.runOne(named, 7), 7);
            for (int t = 0; t < 4; t++) {
                if (t == named) {
                    DUE.same("retired(" + t + ")", x.retired(t), 13);
                } else {
                    DUE.sameThread("runOne(" + named + ", 7), thread " + t, Asm.read(x, t), before[t]);
                }
            }
        }
    }

    private static void clampsSteps() {
        int[][] cases = {{0, 0}, {1, 1}, {39, 39}, {40, 40}, {41, 40}, {Asm.GREATEST, 40},
            {-1, 0}, {Asm.LEAST, 0}};
        for (int[] one : cases) {
            SmtCore x = Asm.busyFour();
            DUE.same("runOne(1, " + one[0] + ")", x.runOne(1, one[0]), one[1]);
            DUE.same("retired(1)", x.retired(1), 6 + one[1]);
        }
        SmtCore empty = Asm.four();
        DUE.same("runOne(3, 0) without code", empty.runOne(3, 0), 0);
        DUE.same("status(3)", empty.status(3), SmtCore.RUNNING);
        DUE.same("runOne(3, 1) without code", empty.runOne(3, 1), 0);
        DUE.same("status(3)", empty.status(3), SmtCore.PC_TRAP);
        DUE.same("status(2)", empty.status(2), SmtCore.RUNNING);
    }

    private static void isAsRun() {
        SmtCore together = Asm.busyFour();
        SmtCore apart = Asm.busyFour();
        int sum = 0;
        for (int t = 3; t >= 0; t--) {
            sum += apart.runOne(t, 23);
        }
        DUE.same("runOne over all threads", sum, together.run(23));
        DUE.sameThread("runOne over all threads", Asm.readAll(apart), Asm.readAll(together));
    }

    private static void refuses() {
        SmtCore x = Asm.busyFour();
        String before = Asm.readAll(x);
        for (int t : Asm.NO_THREADS) {
            DUE.same("runOne(" + t + ", 5)", x.runOne(t, 5), SmtCore.BAD_THREAD);
            DUE.same("runOne(" + t + ", 0)", x.runOne(t, 0), SmtCore.BAD_THREAD);
        }
        DUE.sameThread("refused runOne", Asm.readAll(x), before);
        DUE.same("runOne(1, 5) of one thread", Asm.single().runOne(1, 5), SmtCore.BAD_THREAD);
    }
}
