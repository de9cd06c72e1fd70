import java.util.ArrayDeque;
import java.util.Deque;

/**
 * An object of the program under watch: a wrong answer is told with the calls before it, and no test can lean on
 * what the object answers after its 512th call, because the document leaves that free.
 */
final class Watched {
    static final int MOST_CALLS = 512;
    private static final int CALLS_TOLD = 12;

    private final Edge edge;
    private final SmtCore core;
    private final int threads;
    private final String made;
    private final Deque<String> told = new ArrayDeque<>();
    private int calls = 0;
    private boolean isDue = false;
    private int due = 0;

    Watched(Edge edge, int threads, int width, int spare, int window) {
        this.edge = edge;
        this.core = new SmtCore(threads, width, spare, window);
        this.threads = Math.max(1, Math.min(4, threads));
        this.made = "new SmtCore(" + threads + ", " + width + ", " + spare + ", " + window + ")";
    }

    /** The next call has to answer this. */
    Watched due(int answer) {
        isDue = true;
        due = answer;
        return this;
    }

    int calls() {
        return calls;
    }

    private int answered(int answer, String call, int... numbers) {
        calls++;
        StringBuilder row = new StringBuilder(call).append('(');
        for (int i = 0; i < numbers.length; i++) {
            row.append(i == 0 ? "" : ", ").append(numbers[i]);
        }
        row.append(") = ").append(answer);
        told.addLast(row.toString());
        if (told.size() > CALLS_TOLD) {
            told.removeFirst();
        }
        if (calls > MOST_CALLS) {
            edge.wrong("the test itself: " + calls + " calls on one object");
        }
        if (isDue) {
            edge.right(answer == due, () -> story() + ", due is " + due);
        }
        isDue = false;
        return answer;
    }

    private String story() {
        String gap = calls > CALLS_TOLD ? ".. " + (calls - CALLS_TOLD) + " calls more .. " : "";
        return made + "; " + gap + String.join("; ", told);
    }

    int emit(int thread, int op, int regs, int imm) {
        return answered(core.emit(thread, op, regs, imm), "emit", thread, op, regs, imm);
    }

    int retarget(int thread, int index, int imm) {
        return answered(core.retarget(thread, index, imm), "retarget", thread, index, imm);
    }

    int setReg(int thread, int r, int value) {
        return answered(core.setReg(thread, r, value), "setReg", thread, r, value);
    }

    int setMem(int thread, int a, int value) {
        return answered(core.setMem(thread, a, value), "setMem", thread, a, value);
    }

    int restart(int thread, int pc) {
        return answered(core.restart(thread, pc), "restart", thread, pc);
    }

    int reset(int thread) {
        return answered(core.reset(thread), "reset", thread);
    }

    int run(int n) {
        return answered(core.run(n), "run", n);
    }

    int runOne(int thread, int n) {
        return answered(core.runOne(thread, n), "runOne", thread, n);
    }

    int reg(int thread, int r) {
        return answered(core.reg(thread, r), "reg", thread, r);
    }

    int mem(int thread, int a) {
        return answered(core.mem(thread, a), "mem", thread, a);
    }

    int pc(int thread) {
        return answered(core.pc(thread), "pc", thread);
    }

    int status(int thread) {
        return answered(core.status(thread), "status", thread);
    }

    int retired(int thread) {
        return answered(core.retired(thread), "retired", thread);
    }

    int digest(int thread) {
        return answered(core.digest(thread), "digest", thread);
    }

    int size(int thread) {
        return answered(core.size(thread), "size", thread);
    }

    /** Puts the count of retired instructions where no 512 calls can bring it. */
    void putRetired(int thread, int count) {
        Inside.array(core, "retiredCount")[thread] = count;
    }

    /** All that can be read of a thread, in 29 calls. */
    String state(int thread) {
        StringBuilder all = new StringBuilder("size " + size(thread) + " pc " + pc(thread) + " status "
            + status(thread) + " retired " + retired(thread) + " digest " + digest(thread) + " R");
        for (int r = 0; r < 8; r++) {
            all.append(' ').append(reg(thread, r));
        }
        all.append(" M");
        for (int a = 0; a < 16; a++) {
            all.append(' ').append(mem(thread, a));
        }
        return all.toString();
    }

    /** All that can be read of the object's threads. */
    String state() {
        StringBuilder all = new StringBuilder();
        for (int t = 0; t < threads; t++) {
            all.append(t == 0 ? "" : " | ").append(state(t));
        }
        return all.toString();
    }

    /** Code can't be read, only carried out: one step of every instruction, then all that can be read. */
    String future() {
        StringBuilder all = new StringBuilder();
        for (int t = 0; t < threads; t++) {
            int size = size(t);
            for (int i = 0; i < size; i++) {
                restart(t, i);
                all.append(runOne(t, 1)).append(' ').append(status(t)).append(' ');
            }
        }
        return all.append(state()).toString();
    }
}
