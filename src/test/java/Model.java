import java.util.ArrayList;
import java.util.Arrays;
import java.util.List;

/**
 * The document's thread once more, written apart from the program: lists and long numbers, so that a slip of
 * the program's is unlikely to stand here as well.
 */
final class Model {
    static final class Instruction {
        final int op;
        final int d;
        final int a;
        final int b;
        int imm;

        Instruction(int op, int regs, int imm) {
            this.op = op;
            this.d = regs % 8;
            this.a = regs / 8 % 8;
            this.b = regs / 64;
            this.imm = imm;
        }
    }

    final List<Instruction> code = new ArrayList<>();
    final long[] r = new long[8];
    final long[] m = new long[16];
    long pc = 0;
    int status = 0;
    long retired = 0;
    long digest = 0;

    void reset() {
        code.clear();
        Arrays.fill(r, 0);
        Arrays.fill(m, 0);
        pc = 0;
        status = 0;
        retired = 0;
        digest = 0;
    }

    private static long wrap(long value) {
        return (int) value;
    }

    /** One step; answers whether an instruction retired. */
    boolean step() {
        if (pc < 0 || pc >= code.size()) {
            status = 4;
            return false;
        }
        Instruction i = code.get((int) pc);
        long a = r[i.a];
        long b = r[i.b];
        long e = wrap(a + i.imm);
        boolean memory = i.op == Asm.LOAD || i.op == Asm.STORE;
        if (i.op == Asm.HALT) {
            status = 1;
        } else if (i.op == Asm.DIV && b == 0) {
            status = 2;
        } else if (memory && (e < 0 || e > 15)) {
            status = 3;
        }
        if (status != 0) {
            return false;
        }
        long next = switch (i.op) {
            case Asm.BEQ -> a == b ? i.imm : pc + 1;
            case Asm.BLT -> a < b ? i.imm : pc + 1;
            case Asm.CALL -> i.imm;
            case Asm.JUMPR -> a;
            default -> pc + 1;
        };
        long value = wrap(switch (i.op) {
            case Asm.SET -> i.imm;
            case Asm.ADD -> a + b;
            case Asm.SUB -> a - b;
            case Asm.MUL -> a * b;
            case Asm.DIV -> a / b;
            case Asm.AND -> a & b;
            case Asm.XOR -> a ^ b;
            case Asm.SHL -> a * (1L << Math.floorMod(i.imm, 32));
            case Asm.ADDI -> a + i.imm;
            case Asm.LOAD -> m[(int) e];
            case Asm.STORE -> 5 * e + b;
            case Asm.CALL -> pc + 1;
            default -> next;
        });
        if (i.op == Asm.STORE) {
            m[(int) e] = b;
        } else if (i.op <= Asm.LOAD || i.op == Asm.CALL) {
            r[i.d] = value;
        }
        digest = wrap(digest * 31 + 7 * pc + value);
        retired++;
        pc = next;
        return true;
    }
}
