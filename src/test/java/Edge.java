import java.util.function.Consumer;
import java.util.function.Supplier;

/** The test of one sentence of the document: makes the objects it works on and counts what was compared. */
final class Edge {
    private final String sentence;
    private int compared = 0;
    private int wrong = 0;

    Edge(String sentence) {
        this.sentence = sentence;
    }

    int compared() {
        return compared;
    }

    int wrongs() {
        return wrong;
    }

    void right(boolean right, Supplier<String> story) {
        compared++;
        if (!right) {
            wrong(story.get());
        }
    }

    void wrong(String story) {
        wrong++;
        System.out.println("broken: " + sentence + "\n  " + story);
    }

    void alike(String after, String got, String want) {
        right(got.equals(want), () -> "after " + after + "\n  stands " + got + "\n  due is " + want);
    }

    /** An object of a size that is of no concern to the test. */
    Watched core(int threads) {
        return core(threads, 2, 8, 8);
    }

    Watched core(int threads, int width, int spare, int window) {
        return new Watched(this, threads, width, spare, window);
    }

    /** Four threads, each with code, registers, cells and a past of its own, nothing of it 0 at the ends. */
    Watched busy() {
        Watched x = core(4);
        for (int t = 0; t < 4; t++) {
            x.emit(t, Asm.SET, Asm.regs(1, 0, 0), 100 + t);
            x.emit(t, Asm.ADDI, Asm.regs(2, 1, 0), 7);
            x.emit(t, Asm.STORE, Asm.regs(0, 3, 2), t);
            x.emit(t, Asm.BEQ, Asm.regs(0, 4, 4), 0);
            x.setReg(t, 0, 10 * (t + 1));
            x.setReg(t, 7, 1000 * (t + 1));
            x.setMem(t, 0, -10 * (t + 1));
            x.setMem(t, 15, -1000 * (t + 1));
        }
        x.run(6);
        return x;
    }

    /** One thread whose code is full; each instruction leaves a mark of its own. */
    Watched full() {
        Watched x = core(1);
        for (int i = 0; i < 24; i++) {
            x.emit(0, Asm.ADDI, Asm.regs(i % 8, (i + 1) % 8, 0), 1000 + i);
        }
        return x;
    }

    /** One thread, its counter on the only instruction that isn't HALT, at index p. */
    Watched at(int p, int op, int regs, int imm) {
        Watched x = core(1);
        for (int i = 0; i < p; i++) {
            x.emit(0, Asm.HALT, 0, 0);
        }
        x.emit(0, op, regs, imm);
        x.restart(0, p);
        return x;
    }

    /** As at(), with R[3] = a and R[4] = b; d is 5, which holds 555. */
    Watched at(int p, int op, int a, int b, int imm) {
        Watched x = at(p, op, Asm.regs(5, 3, 4), imm);
        x.setReg(0, 3, a);
        x.setReg(0, 4, b);
        x.setReg(0, 5, 555);
        return x;
    }

    /** One thread, stopped with this status (or running) at counter 1. */
    Watched standing(int status) {
        int[] stopping = {Asm.SET, Asm.HALT, Asm.DIV, Asm.STORE};
        Watched x = core(1);
        x.emit(0, Asm.SET, 7, 3);
        if (status != SmtCore.PC_TRAP) {
            x.emit(0, stopping[status], 0, 16);
        }
        x.run(status == SmtCore.RUNNING ? 1 : 2);
        x.due(status).status(0);
        x.due(1).pc(0);
        return x;
    }

    /** The calls leave an object as one that never saw them, in what can be read and in what its code does. */
    void changesNothing(Supplier<Watched> make, Consumer<Watched> calls) {
        Watched touched = make.get();
        Watched untouched = make.get();
        calls.accept(touched);
        alike("calls that change nothing", touched.state(), untouched.state());
        alike("calls that change nothing, and a step of each instruction", touched.future(), untouched.future());
    }

    /** The next step stops the one thread with this status and changes nothing else. */
    void stops(Watched x, int status) {
        String before = x.state();
        x.due(0).run(40);
        x.due(status).status(0);
        alike("the stop", x.state(), before.replace("status " + SmtCore.RUNNING, "status " + status));
    }
}
