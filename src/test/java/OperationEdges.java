/** The rows of the table of operations, and where the counter goes after them. */
final class OperationEdges {
    private static final int LEAST = Asm.LEAST;
    private static final int GREATEST = Asm.GREATEST;

    private OperationEdges() {
    }

    static void add(Sentences s) {
        s.under("Terms");
        s.holds("0 HALT the thread stops, see below", OperationEdges::halt);
        s.holds("1 SET R[d] = imm", OperationEdges::set);
        s.holds("2 ADD R[d] = R[a] + R[b]", OperationEdges::add);
        s.holds("3 SUB R[d] = R[a] - R[b]", OperationEdges::subtract);
        s.holds("4 MUL R[d] = R[a] * R[b]", OperationEdges::multiply);
        s.holds("5 DIV R[d] = R[a] / R[b] (Java's division, toward zero;", OperationEdges::divideTowardZero);
        s.holds("least int by -1 gives the least int);", OperationEdges::divideLeastByMinusOne);
        s.holds("if R[b] is 0 the thread stops, see below", OperationEdges::divideByZero);
        s.holds("6 AND R[d] = R[a] & R[b]", OperationEdges::and);
        s.holds("7 XOR R[d] = R[a] ^ R[b]", OperationEdges::xor);
        s.holds("8 SHL R[d] = R[a] << (imm & 31)", OperationEdges::shift);
        s.holds("9 ADDI R[d] = R[a] + imm", OperationEdges::addConstant);
        s.holds("10 LOAD R[d] = M[e] with e = R[a] + imm (wrapping); if e is not in 0 to 15 the thread stops",
            OperationEdges::load);
        s.holds("11 STORE M[e] = R[b] with e = R[a] + imm (wrapping); if e is not in 0 to 15 the thread stops",
            OperationEdges::store);
        s.holds("12 BEQ next counter is imm if R[a] == R[b], else p + 1", OperationEdges::branchIfEqual);
        s.holds("13 BLT next counter is imm if R[a] < R[b] (signed), else p + 1", OperationEdges::branchIfLess);
        s.holds("14 CALL R[d] = p + 1; next counter is imm", OperationEdges::call);
        s.holds("15 JUMPR next counter is R[a]", OperationEdges::jump);
        s.holds("The next counter of all others is p + 1.", OperationEdges::othersGoOn);
        s.holds("Any int may become the counter; see the first test of a step.", OperationEdges::anyCounter);
    }

    /** The instruction retires, writes R[d] and nothing else, and leaves the thread running. */
    private static void writes(Edge e, int op, int a, int b, int imm, int want) {
        Watched x = e.at(0, op, a, b, imm);
        x.due(1).run(1);
        x.due(want).reg(0, 5);
        x.due(a).reg(0, 3);
        x.due(b).reg(0, 4);
        x.due(want).digest(0);
        x.due(1).pc(0);
        x.due(SmtCore.RUNNING).status(0);
    }

    private static void goesTo(Edge e, int p, int op, int a, int b, int imm, int next) {
        Watched x = e.at(p, op, a, b, imm);
        x.due(1).run(1);
        x.due(next).pc(0);
        x.due(7 * p + next).digest(0);
        x.due(555).reg(0, 5);
        x.due(SmtCore.RUNNING).status(0);
    }

    private static void halt(Edge e) {
        for (int imm : new int[] {LEAST, -1, 0, 1, GREATEST}) {
            e.stops(e.at(0, Asm.HALT, 3, 4, imm), SmtCore.HALTED);
            e.stops(e.at(23, Asm.HALT, 0, 0, imm), SmtCore.HALTED);
        }
    }

    private static void set(Edge e) {
        for (int imm : new int[] {LEAST, LEAST + 1, -1, 0, 1, GREATEST - 1, GREATEST}) {
            writes(e, Asm.SET, 3, 4, imm, imm);
        }
    }

    private static void add(Edge e) {
        writes(e, Asm.ADD, GREATEST - 1, 1, 9, GREATEST);
        writes(e, Asm.ADD, GREATEST, 1, 9, LEAST);
        writes(e, Asm.ADD, 1, GREATEST, 9, LEAST);
        writes(e, Asm.ADD, GREATEST, GREATEST, 9, -2);
        writes(e, Asm.ADD, LEAST + 1, -1, 9, LEAST);
        writes(e, Asm.ADD, LEAST, -1, 9, GREATEST);
        writes(e, Asm.ADD, LEAST, LEAST, 9, 0);
        writes(e, Asm.ADD, LEAST, GREATEST, 9, -1);
    }

    private static void subtract(Edge e) {
        writes(e, Asm.SUB, LEAST + 1, 1, 9, LEAST);
        writes(e, Asm.SUB, LEAST, 1, 9, GREATEST);
        writes(e, Asm.SUB, GREATEST - 1, -1, 9, GREATEST);
        writes(e, Asm.SUB, GREATEST, -1, 9, LEAST);
        writes(e, Asm.SUB, -1, LEAST, 9, GREATEST);
        writes(e, Asm.SUB, 0, LEAST, 9, LEAST);
        writes(e, Asm.SUB, 0, GREATEST, 9, LEAST + 1);
        writes(e, Asm.SUB, LEAST, LEAST, 9, 0);
        writes(e, Asm.SUB, GREATEST, LEAST, 9, -1);
    }

    private static void multiply(Edge e) {
        writes(e, Asm.MUL, 46340, 46340, 9, 2147395600);
        writes(e, Asm.MUL, 46341, 46341, 9, -2147479015);
        writes(e, Asm.MUL, -46341, 46341, 9, 2147479015);
        writes(e, Asm.MUL, 65536, 32767, 9, 2147418112);
        writes(e, Asm.MUL, 65536, 32768, 9, LEAST);
        writes(e, Asm.MUL, -65536, 32768, 9, LEAST);
        writes(e, Asm.MUL, 65536, 65536, 9, 0);
        writes(e, Asm.MUL, LEAST, -1, 9, LEAST);
        writes(e, Asm.MUL, GREATEST, -1, 9, LEAST + 1);
        writes(e, Asm.MUL, GREATEST, GREATEST, 9, 1);
        writes(e, Asm.MUL, LEAST, LEAST, 9, 0);
        writes(e, Asm.MUL, 0, LEAST, 9, 0);
    }

    private static void divideTowardZero(Edge e) {
        int[][] cases = {{7, 2, 3}, {-7, 2, -3}, {7, -2, -3}, {-7, -2, 3}, {6, 2, 3}, {-6, 2, -3}, {1, 2, 0},
            {-1, 2, 0}, {1, -2, 0}, {-1, -2, 0}, {0, -5, 0}, {GREATEST, LEAST, 0}, {LEAST, GREATEST, -1},
            {GREATEST, 2, 1073741823}, {LEAST + 1, 2, -1073741823}, {GREATEST, GREATEST, 1}, {LEAST, LEAST, 1}};
        for (int[] one : cases) {
            writes(e, Asm.DIV, one[0], one[1], 9, one[2]);
        }
    }

    private static void divideLeastByMinusOne(Edge e) {
        writes(e, Asm.DIV, LEAST, -1, 9, LEAST);
        writes(e, Asm.DIV, LEAST + 1, -1, 9, GREATEST);
        writes(e, Asm.DIV, LEAST, 1, 9, LEAST);
        writes(e, Asm.DIV, LEAST, -2, 9, 1 << 30);
        writes(e, Asm.DIV, GREATEST, -1, 9, LEAST + 1);
    }

    private static void divideByZero(Edge e) {
        for (int a : new int[] {LEAST, -1, 0, 1, GREATEST}) {
            for (int imm : new int[] {-1, 0, 1}) {
                e.stops(e.at(0, Asm.DIV, a, 0, imm), SmtCore.DIVIDE_TRAP);
                writes(e, Asm.DIV, a, 1, imm, a);
                writes(e, Asm.DIV, a, -1, imm, a == LEAST ? LEAST : -a);
            }
        }
    }

    private static void and(Edge e) {
        writes(e, Asm.AND, -1, LEAST, 9, LEAST);
        writes(e, Asm.AND, -1, GREATEST, 9, GREATEST);
        writes(e, Asm.AND, LEAST, GREATEST, 9, 0);
        writes(e, Asm.AND, -1, 0, 9, 0);
        writes(e, Asm.AND, -1, -1, 9, -1);
    }

    private static void xor(Edge e) {
        writes(e, Asm.XOR, -1, LEAST, 9, GREATEST);
        writes(e, Asm.XOR, -1, GREATEST, 9, LEAST);
        writes(e, Asm.XOR, LEAST, GREATEST, 9, -1);
        writes(e, Asm.XOR, -1, 0, 9, -1);
        writes(e, Asm.XOR, -1, -1, 9, 0);
    }

    private static void shift(Edge e) {
        int[][] cases = {{0, 3}, {1, 6}, {30, -1073741824}, {31, LEAST}, {32, 3}, {33, 6}, {63, LEAST}, {64, 3},
            {-1, LEAST}, {-31, 6}, {-32, 3}, {-33, LEAST}, {LEAST, 3}, {LEAST + 1, 6}, {GREATEST, LEAST},
            {GREATEST - 1, -1073741824}};
        for (int[] one : cases) {
            writes(e, Asm.SHL, 3, 1, one[0], one[1]);
        }
        writes(e, Asm.SHL, LEAST, 1, 0, LEAST);
        writes(e, Asm.SHL, LEAST, 1, 1, 0);
        writes(e, Asm.SHL, GREATEST, 1, 1, -2);
        writes(e, Asm.SHL, 1 << 30, 1, 1, LEAST);
        writes(e, Asm.SHL, -1, 1, 31, LEAST);
    }

    private static void addConstant(Edge e) {
        writes(e, Asm.ADDI, GREATEST - 1, 9, 1, GREATEST);
        writes(e, Asm.ADDI, GREATEST, 9, 1, LEAST);
        writes(e, Asm.ADDI, 1, 9, GREATEST, LEAST);
        writes(e, Asm.ADDI, LEAST + 1, 9, -1, LEAST);
        writes(e, Asm.ADDI, LEAST, 9, -1, GREATEST);
        writes(e, Asm.ADDI, LEAST, 9, LEAST, 0);
        writes(e, Asm.ADDI, GREATEST, 9, GREATEST, -2);
    }

    /** R[a] and imm whose sum is 0 or 15, without a wrap and with one. */
    private static int[][] insideAddresses() {
        return new int[][] {{0, 0, 0}, {-1, 1, 0}, {1, -1, 0}, {LEAST, LEAST, 0}, {GREATEST, -GREATEST, 0},
            {LEAST + 1, GREATEST, 0}, {15, 0, 15}, {0, 15, 15}, {16, -1, 15}, {-1, 16, 15}, {LEAST, LEAST + 15, 15},
            {LEAST + 15, LEAST, 15}, {GREATEST, LEAST + 16, 15}, {LEAST + 7, LEAST + 1, 8}};
    }

    /** R[a] and imm whose sum is just outside, far outside, or outside on the other end after a wrap. */
    private static int[][] outsideAddresses() {
        return new int[][] {{0, -1}, {-1, 0}, {15, -16}, {LEAST, GREATEST}, {0, 16}, {16, 0}, {15, 1}, {17, -1},
            {LEAST, LEAST + 16}, {LEAST + 8, LEAST + 8}, {GREATEST, 1}, {1, GREATEST}, {GREATEST, GREATEST},
            {LEAST, -1}, {-1, LEAST}, {GREATEST, 0}, {0, GREATEST}, {LEAST, 0}, {0, LEAST}, {0, 32}, {0, -16}};
    }

    private static Watched withCells(Watched x) {
        for (int a = 0; a < 16; a++) {
            x.setMem(0, a, 300 + a);
        }
        return x;
    }

    private static void load(Edge e) {
        for (int[] one : insideAddresses()) {
            Watched x = withCells(e.at(0, Asm.LOAD, one[0], 9, one[1]));
            x.due(1).run(1);
            x.due(300 + one[2]).reg(0, 5);
            x.due(300 + one[2]).digest(0);
        }
        for (int[] one : outsideAddresses()) {
            e.stops(withCells(e.at(0, Asm.LOAD, one[0], 9, one[1])), SmtCore.ADDRESS_TRAP);
        }
    }

    private static void store(Edge e) {
        for (int[] one : insideAddresses()) {
            Watched x = withCells(e.at(0, Asm.STORE, one[0], 9, one[1]));
            x.due(1).run(1);
            for (int a = 0; a < 16; a++) {
                x.due(a == one[2] ? 9 : 300 + a).mem(0, a);
            }
            x.due(555).reg(0, 5);
        }
        for (int[] one : outsideAddresses()) {
            e.stops(withCells(e.at(0, Asm.STORE, one[0], 9, one[1])), SmtCore.ADDRESS_TRAP);
        }
    }

    private static void branchIfEqual(Edge e) {
        for (int a : new int[] {LEAST, -1, 0, 1, GREATEST}) {
            goesTo(e, 0, Asm.BEQ, a, a, 9, 9);
            goesTo(e, 0, Asm.BEQ, a, a + 1, 9, 1);
            goesTo(e, 0, Asm.BEQ, a, a - 1, 9, 1);
            goesTo(e, 0, Asm.BEQ, a, a ^ LEAST, 9, 1);
        }
        goesTo(e, 23, Asm.BEQ, 1, 2, 9, 24);
        goesTo(e, 23, Asm.BEQ, 1, 1, LEAST, LEAST);
        goesTo(e, 23, Asm.BEQ, 1, 1, 23, 23);
    }

    private static void branchIfLess(Edge e) {
        int[][] less = {{LEAST, LEAST + 1}, {LEAST, 0}, {LEAST, 1}, {LEAST, GREATEST}, {-1, 0}, {-1, 1}, {-2, -1},
            {0, 1}, {0, GREATEST}, {-2, GREATEST}, {GREATEST - 1, GREATEST}};
        for (int[] one : less) {
            goesTo(e, 0, Asm.BLT, one[0], one[1], 9, 9);
            goesTo(e, 0, Asm.BLT, one[1], one[0], 9, 1);
            goesTo(e, 0, Asm.BLT, one[0], one[0], 9, 1);
            goesTo(e, 0, Asm.BLT, one[1], one[1], 9, 1);
        }
        goesTo(e, 23, Asm.BLT, 2, 1, 9, 24);
        goesTo(e, 23, Asm.BLT, 1, 2, GREATEST, GREATEST);
    }

    private static void call(Edge e) {
        for (int p : new int[] {0, 1, 22, 23}) {
            for (int imm : new int[] {LEAST, -1, 0, p, p + 1, 24, GREATEST}) {
                Watched x = e.at(p, Asm.CALL, 3, 4, imm);
                x.due(1).run(1);
                x.due(p + 1).reg(0, 5);
                x.due(imm).pc(0);
                x.due(7 * p + p + 1).digest(0);
                x.due(SmtCore.RUNNING).status(0);
            }
        }
    }

    private static void jump(Edge e) {
        for (int to : new int[] {LEAST, -1, 0, 22, 23, 24, GREATEST}) {
            goesTo(e, 23, Asm.JUMPR, to, 4, 9, to);
        }
    }

    private static void othersGoOn(Edge e) {
        for (int p : new int[] {0, 1, 22, 23}) {
            for (int op = Asm.SET; op <= Asm.STORE; op++) {
                Watched x = e.at(p, op, 3, 4, 5);
                x.due(1).run(1);
                x.due(p + 1).pc(0);
                x.due(SmtCore.RUNNING).status(0);
            }
        }
    }

    /** Each way to set the counter; the step after it is the one that stops. */
    private static void anyCounter(Edge e) {
        for (int next : new int[] {LEAST, LEAST + 1, -24, -1, 1, 2, 23, 24, GREATEST - 1, GREATEST}) {
            staysAt(e.at(0, Asm.BEQ, 3, 3, next), next);
            staysAt(e.at(0, Asm.BLT, 2, 3, next), next);
            staysAt(e.at(0, Asm.CALL, 2, 3, next), next);
            staysAt(e.at(0, Asm.JUMPR, next, 3, 0), next);
        }
    }

    private static void staysAt(Watched x, int next) {
        x.due(1).run(1);
        x.due(next).pc(0);
        x.due(SmtCore.RUNNING).status(0);
        x.due(0).run(1);
        x.due(next).pc(0);
        x.due(SmtCore.PC_TRAP).status(0);
        x.due(1).retired(0);
    }
}
