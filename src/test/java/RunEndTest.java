/** Promises 7 and 8: how many steps, every end with nothing changed, and which end comes first. */
public final class RunEndTest {
    private static final int MAX = Integer.MAX_VALUE;
    private static final int RESERVED_WORD = -1;
    private static final int MADD = 0;

    public static void main(String[] args) {
        Check check = new Check("RunEndTest");
        arguments(check);
        steps(check);
        loadEnds(check);
        storeEnds(check);
        overflows(check);
        traps(check);
        unpredictable(check);
        oddDoubles(check);
        order(check);
        check.close();
    }

    private static void arguments(Check check) {
        DelayCore core = new DelayCore(262_144);
        for (int bad : new int[] {0, -1, 10_001, MAX, Integer.MIN_VALUE}) {
            check.throwing("run " + bad, IllegalArgumentException.class, () -> core.run(bad));
        }
        check.due("nothing done", core.state(3), 0);
        check.due("most steps", core.run(10_000), 10_000);
        check.due("PC", core.state(0), 40_000);
        core.go(262_140);
        check.due("one step is left", core.run(10_000), 1);
        check.due("end", core.end(), 1);
        check.throwing("run behind an end", IllegalStateException.class, () -> core.run(1));
        check.throwing("wrong n behind an end", IllegalArgumentException.class, () -> core.run(0));
        check.due("end stays", core.end(), 1);
        check.due("PC stays", core.state(0), 262_144);
    }

    private static void steps(Check check) {
        Rig rig = new Rig(Asm.addiu(1, 1, 1), Asm.addiu(1, 1, 1), Asm.addiu(1, 1, 1), Asm.breakWith(0));
        check.due("one", rig.core.run(1), 1);
        check.due("register", rig.core.get(1), 1);
        check.due("no end", rig.core.end(), 0);
        check.due("two", rig.core.run(2), 2);
        check.due("no end before it is done", rig.core.end(), 0);
        check.due("none", rig.core.run(2), 0);
        check.due("BREAK", rig.core.end(), 6);
        check.due("register", rig.core.get(1), 3);
    }

    /** One word at 0 with these registers: it ends so, and nothing else has changed. */
    private static void ends(Check check, String what, int word, int r1, int r2, int kind) {
        Rig rig = new Rig(word).with(1, r1).with(2, r2).with(31, 8);
        rig.core.put(Rig.DATA, 0x01020304);
        ended(check, what, rig, kind);
    }

    private static void ended(Check check, String what, Rig rig, int kind) {
        int steps = rig.core.state(3);
        String before = rig.picture();
        int done = rig.core.run(1);
        check.due(what + ": end", rig.core.end(), kind);
        check.due(what + ": done", done, kind == 0 ? 1 : 0);
        check.due(what + ": steps", rig.core.state(3), kind == 0 ? steps + 1 : steps);
        if (kind != 0) {
            check.due(what + ": nothing changed", rig.picture(), before);
        }
    }

    private static void loadEnds(Check check) {
        int[][] kinds = {{32, 1}, {36, 1}, {33, 2}, {37, 2}, {35, 4}, {48, 4}, {49, 4}, {53, 8}, {34, 1}, {38, 1}};
        accesses(check, kinds, 1);
        Rig odd = new Rig(Asm.jr(1), Asm.addiu(2, 2, 1)).with(1, 130);
        check.due("a jump to no multiple of 4 and its slot", odd.core.run(5), 2);
        check.due("the step itself", odd.core.end(), 1);
        check.due("PC", odd.core.state(0), 130);
        check.due("NEXT", odd.core.state(1), 134);
        check.due("slot done", odd.core.get(2), 1);
        Rig high = new Rig(Asm.jr(1), Asm.NOP).with(1, -4);
        check.due("a jump to the highest word", high.core.run(5), 2);
        check.due("not in memory", high.core.end(), 1);
        check.due("NEXT goes round", high.core.state(1), 0);
    }

    private static void storeEnds(Check check) {
        int[][] kinds = {{40, 1}, {41, 2}, {43, 4}, {57, 4}, {61, 8}, {42, 1}, {46, 1}};
        accesses(check, kinds, 2);
    }

    private static void accesses(Check check, int[][] kinds, int kind) {
        for (int[] one : kinds) {
            for (int address = 1008; address < 1032; address++) {
                boolean good = address % one[1] == 0 && address + one[1] <= 1024;
                int word = Asm.immediate(one[0], 1, 2, 8);
                ends(check, "opcode " + one[0] + " at " + address, word, address - 8, 3, good ? 0 : kind);
            }
            for (int address : new int[] {-8, -1, Integer.MIN_VALUE, MAX - 7, MAX}) {
                ends(check, "opcode " + one[0] + " at " + address, Asm.immediate(one[0], 1, 2, 0), address, 3, kind);
            }
            ends(check, "the address goes round", Asm.immediate(one[0], 1, 2, 16), -8, 3, 0);
        }
    }

    private static void overflows(Check check) {
        int add = Asm.special(32, 1, 2, 3, 0);
        int sub = Asm.special(34, 1, 2, 3, 0);
        int addi = Asm.immediate(8, 1, 2, 1);
        ends(check, "ADD", add, MAX, 1, 4);
        ends(check, "ADD", add, MAX, 0, 0);
        ends(check, "ADD", add, Integer.MIN_VALUE, -1, 4);
        ends(check, "ADD into 0", Asm.special(32, 1, 2, 0, 0), MAX, 1, 4);
        ends(check, "SUB", sub, Integer.MIN_VALUE, 1, 4);
        ends(check, "SUB", sub, 0, Integer.MIN_VALUE, 4);
        ends(check, "SUB", sub, -1, Integer.MIN_VALUE, 0);
        ends(check, "ADDI", addi, MAX, 0, 4);
        ends(check, "ADDI", addi, MAX - 1, 0, 0);
        ends(check, "ADDI -1", Asm.immediate(8, 1, 2, -1), Integer.MIN_VALUE, 0, 4);
    }

    private static void traps(Check check) {
        int[] values = {0, 1, -1, 5, MAX, Integer.MIN_VALUE, 0x7FFF, -0x8000, 0x8000};
        for (int a : values) {
            for (int b : values) {
                boolean[] due = {a >= b, Integer.compareUnsigned(a, b) >= 0, a < b,
                    Integer.compareUnsigned(a, b) < 0, a == b, false, a != b};
                for (int k = 0; k < 7; k++) {
                    if (k == 5) {
                        continue;
                    }
                    int word = Asm.special(48 + k, 1, 2, 31, 31);
                    ends(check, "trap " + k + " of " + a + ", " + b, word, a, b, due[k] ? 5 : 0);
                    if (b == (short) b) {
                        ends(check, "trap " + k + " at once", Asm.regimm(8 + k, 1, b), a, 0, due[k] ? 5 : 0);
                    }
                }
            }
        }
    }

    private static void unpredictable(Check check) {
        ends(check, "JALR into what it asks", Asm.jalr(1, 1), 64, 0, 8);
        ends(check, "JALR 0 into 0", Asm.jalr(0, 0), 64, 0, 8);
        ends(check, "JALR into another", Asm.jalr(2, 1), 64, 0, 0);
        for (int kind = 16; kind < 20; kind++) {
            ends(check, "linking branch of 31", Asm.regimm(kind, 31, 4), 0, 0, 8);
            ends(check, "linking branch of 1", Asm.regimm(kind, 1, 4), 0, 0, 0);
            ends(check, "other branch of 31", Asm.regimm(kind - 16, 31, 4), 0, 0, 0);
        }
        ends(check, "SC without a LINK", Asm.sc(2, 0, Rig.DATA), 0, 0, 8);
        Rig other = new Rig(Asm.ll(2, 0, Rig.DATA), Asm.sc(2, 0, Rig.DATA + 4), Asm.sc(2, 0, Rig.DATA));
        other.core.run(1);
        ended(check, "SC at another address", other, 8);
        int[] inSlot = {Asm.j(0), Asm.jal(0), Asm.jr(1), Asm.jalr(2, 1), Asm.bc1(true, false, 0, 1),
            Asm.bc1(false, false, 1, 1), Asm.bc1(true, true, 2, 1), Asm.bc1(false, true, 3, 1)};
        for (int word : inSlot) {
            branchInSlot(check, word);
        }
        for (int opcode : new int[] {4, 5, 6, 7, 20, 21, 22, 23}) {
            branchInSlot(check, Asm.immediate(opcode, 1, 2, 3));
        }
        for (int kind : new int[] {0, 1, 2, 3, 16, 17, 18, 19}) {
            branchInSlot(check, Asm.regimm(kind, 1, 3));
        }
        unknownHiLo(check);
    }

    private static void branchInSlot(Check check, int word) {
        for (int first : new int[] {Asm.j(64), Asm.beq(0, 0, 3), Asm.bne(0, 0, 3), Asm.regimm(19, 0, 3)}) {
            Rig rig = new Rig(first, word);
            rig.core.run(1);
            ended(check, "in a slot " + Integer.toHexString(word), rig, 8);
            check.due("still its slot", rig.core.state(2), 1);
        }
        Rig passed = new Rig(Asm.bnel(0, 0, 3), Asm.NOP, word).with(1, 64);
        passed.core.run(1);
        ended(check, "behind a slot that is passed over", passed, 0);
    }

    private static void unknownHiLo(Check check) {
        for (int maker : new int[] {Asm.divu(1, 0), Asm.special(26, 1, 0, 0, 0), Asm.mul(0, 1, 1)}) {
            for (int word : new int[] {Asm.mfhi(3), Asm.mflo(3), accumulate(0), accumulate(1), accumulate(4),
                accumulate(5)}) {
                ended(check, "of what is unknown", behind(maker, word), 8);
            }
            ended(check, "HI known", behind(maker, Asm.mfhi(3)).with(Rig.HI, 2), 0);
            ended(check, "LO unknown", behind(maker, Asm.mflo(3)).with(Rig.HI, 2), 8);
            ended(check, "LO known", behind(maker, Asm.mflo(3)).with(Rig.LO, 2), 0);
            ended(check, "HI unknown", behind(maker, Asm.mfhi(3)).with(Rig.LO, 2), 8);
            ended(check, "MADD with LO alone", behind(maker, accumulate(MADD)).with(Rig.LO, 2), 8);
            ended(check, "MADD with HI alone", behind(maker, accumulate(MADD)).with(Rig.HI, 2), 8);
            ended(check, "MADD", behind(maker, accumulate(MADD)).with(Rig.HI, 2).with(Rig.LO, 1), 0);
            Rig moved = new Rig(maker, Asm.mthi(1), Asm.mfhi(3), Asm.mtlo(1), Asm.mflo(4)).with(1, 9);
            check.due("MTHI and MTLO make them known", moved.core.run(5), 5);
            check.due("HI", moved.core.get(3), 9);
            check.due("LO", moved.core.get(4), 9);
            Rig again = new Rig(maker, Asm.divu(1, 1), Asm.mfhi(3), Asm.mflo(4)).with(1, 9);
            check.due("DIVU makes them known", again.core.run(4), 4);
        }
    }

    private static int accumulate(int function) {
        return Asm.special2(function, 1, 1, 0);
    }

    private static Rig behind(int maker, int word) {
        Rig rig = new Rig(maker, word).with(1, 7);
        rig.core.run(1);
        return rig;
    }

    /** Which of fd, fs and ft are a double's, for every instruction that has one. */
    private static void oddDoubles(Check check) {
        for (int function : new int[] {0, 1, 2, 3}) {
            oddFields(check, function, Asm.D, true, true, true);
        }
        for (int function : new int[] {4, 5, 6, 7, 17, 18, 19}) {
            oddFields(check, function, Asm.D, true, true, false);
        }
        for (int function : new int[] {12, 13, 14, 15, 36, 32}) {
            oddFields(check, function, Asm.D, false, true, false);
        }
        for (int function = 48; function < 64; function++) {
            oddFields(check, function, Asm.D, false, true, true);
        }
        oddFields(check, 33, Asm.S, true, false, false);
        oddFields(check, 33, Asm.W, true, false, false);
        oddFields(check, 32, Asm.W, false, false, false);
        for (int function : new int[] {0, 1, 2, 3, 4, 5, 6, 7, 12, 13, 14, 15, 17, 18, 19, 36, 48, 63}) {
            oddFields(check, function, Asm.S, false, false, false);
        }
        for (int opcode : new int[] {53, 61}) {
            ends(check, "an odd one", Asm.immediate(opcode, 0, 3, Rig.DATA), 0, 0, 8);
            ends(check, "an odd one ahead of its address", Asm.immediate(opcode, 0, 3, 1), 0, 0, 8);
            ends(check, "an even one", Asm.immediate(opcode, 0, 30, Rig.DATA), 0, 0, 0);
        }
    }

    private static void oddFields(Check check, int function, int format, boolean fd, boolean fs, boolean ft) {
        String what = "function " + function + " of format " + format;
        ends(check, what, Asm.fraction(function, format, 4, 6, 8), 0, 0, 0);
        ends(check, what + " fd", Asm.fraction(function, format, 31, 6, 8), 0, 0, fd ? 8 : 0);
        ends(check, what + " fs", Asm.fraction(function, format, 4, 31, 8), 0, 0, fs ? 8 : 0);
        ends(check, what + " ft", Asm.fraction(function, format, 4, 6, 31), 0, 0, ft ? 8 : 0);
    }

    private static void order(Check check) {
        int[][] inSlot = {{RESERVED_WORD, 3}, {Asm.lw(1, 0, 1), 1}, {Asm.sw(1, 0, 1), 2}, {Asm.syscall(1), 7},
            {Asm.breakWith(1), 6}, {Asm.special(52, 0, 0, 0, 0), 5}, {Asm.special(32, 1, 1, 2, 0), 4},
            {Asm.jalr(1, 1), 8}, {Asm.sc(1, 0, 2), 8}};
        for (int[] one : inSlot) {
            Rig rig = new Rig(Asm.j(64), one[0]).with(1, MAX);
            rig.core.run(1);
            ended(check, "in a slot " + Integer.toHexString(one[0]), rig, one[1]);
        }
        Rig edge = new Rig(Asm.NOP);
        edge.core.put(1020, Asm.j(0));
        edge.core.go(1020);
        edge.core.run(1);
        ended(check, "a slot that is not in memory", edge, 1);
        ends(check, "SC at a wrong address without a LINK", Asm.sc(2, 0, 2), 0, 0, 8);
    }
}
