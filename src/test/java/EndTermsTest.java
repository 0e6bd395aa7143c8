/** Terms, the ends and their order: a method for each sentence, with its words in its remark. */
public final class EndTermsTest {
    private static final Check CHECK = new Check("EndTermsTest");
    private static final String TERMS = "Terms, ENDS";
    private static final int MIN = Integer.MIN_VALUE;
    private static final int MAX = Integer.MAX_VALUE;
    private static final int[] RESERVED_WORDS = {-1, 0x0000000E, 0x00000005, 0x00000014, 0x0000003F, 0x70000003,
        0x7000003F, 0x04040000, 0x041F0000, 0x40000000, 0x44400000, 0x44C00000, 0x4600000A, 0x46200021, 0x46000020,
        0x46800000, 0x46C00000, 0x4C000000, 0xBC000000, 0xD0000000, 0xF0000000};

    private static final int[] BRANCHES = {Asm.j(0), Asm.jal(0), Asm.jr(1), Asm.jalr(2, 1), Asm.bc1(true, false, 0, 1),
        Asm.bc1(false, false, 1, 1), Asm.bc1(true, true, 2, 1), Asm.bc1(false, true, 3, 1),
        Asm.immediate(4, 1, 2, 3), Asm.immediate(5, 1, 2, 3), Asm.immediate(6, 1, 2, 3), Asm.immediate(7, 1, 2, 3),
        Asm.immediate(20, 1, 2, 3), Asm.immediate(21, 1, 2, 3), Asm.immediate(22, 1, 2, 3), Asm.immediate(23, 1, 2, 3),
        Asm.regimm(0, 1, 3), Asm.regimm(1, 1, 3), Asm.regimm(2, 1, 3), Asm.regimm(3, 1, 3), Asm.regimm(16, 1, 3),
        Asm.regimm(17, 1, 3), Asm.regimm(18, 1, 3), Asm.regimm(19, 1, 3)};

    public static void main(String[] args) {
        noEnd();
        stepItself();
        loads();
        stores();
        reserved();
        overflows();
        traps();
        breakAndSyscall();
        branchInSlot();
        jumpIntoWhatItAsks();
        linkingBranchOf31();
        unknownHiLo();
        oddDoubles();
        conditionalStores();
        nothingChanged();
        order();
        oneByte();
        CHECK.close();
    }

    /** One word at 0 with these registers: it ends so, and all else is as it is without that step. */
    private static void ends(String what, int word, int r1, int r2, int kind) {
        Rig rig = start(word, r1, r2);
        int done = rig.core.run(1);
        CHECK.due(what + ": end", rig.core.end(), kind);
        CHECK.due(what + ": done", done, kind == 0 ? 1 : 0);
        CHECK.due(what + ": steps", rig.core.state(3), done);
        if (kind != 0) {
            CHECK.due(what + ": nothing changed", rig.wholePicture(), start(word, r1, r2).wholePicture());
        }
    }

    private static Rig start(int word, int r1, int r2) {
        return new Rig(word).code(Rig.DATA, 0x01020304).with(1, r1).with(2, r2).with(31, 8);
    }

    private static void ended(String what, Rig rig, int kind) {
        int steps = rig.core.state(3);
        String before = rig.picture();
        int done = rig.core.run(1);
        CHECK.due(what + ": end", rig.core.end(), kind);
        CHECK.due(what + ": done", done, kind == 0 ? 1 : 0);
        CHECK.due(what + ": steps", rig.core.state(3), kind == 0 ? steps + 1 : steps);
        if (kind != 0) {
            CHECK.due(what + ": nothing changed", rig.picture(), before);
        }
    }

    /** The ends are 1 to 8: a step that has none of them is done. */
    private static void noEnd() {
        CHECK.sentence("Promise 8", "0 when it did not");
        ends("SLL 0", Asm.NOP, 0, 0, 0);
        ends("LW", Asm.lw(3, 0, Rig.DATA), 0, 0, 0);
        ends("SW", Asm.sw(3, 0, Rig.DATA), 0, 0, 0);
        ends("J", Asm.j(0), 0, 0, 0);
    }

    /** "1 LOAD: the address of the step itself .. is not good": no multiple of 4, or not all memory's. */
    private static void stepItself() {
        CHECK.sentence(TERMS,
            "1 LOAD: the address of the step itself, or of what is to be loaded (LL, too), is not good");
        for (int target : new int[] {1, 2, 3, 6, 1022, 1023, 1024, 1028, 0x7FFFFFFC, MIN, -4, -1}) {
            Rig rig = new Rig(Asm.jr(1), Asm.addiu(2, 2, 1)).with(1, target);
            CHECK.due("a jump to " + target + " and its slot", rig.core.run(5), 2);
            CHECK.due("then no step", rig.core.end(), 1);
            CHECK.due("PC", rig.core.state(0), target);
            CHECK.due("NEXT", rig.core.state(1), target + 4);
            CHECK.due("slot done", rig.core.get(2), 1);
            CHECK.due("no load is counted", rig.core.state(4), 0);
        }
        for (int address : new int[] {1024, 1028, 0x7FFFFFFC, MIN, -4}) {
            Rig rig = new Rig();
            rig.core.go(address);
            ended("a step at " + address, rig, 1);
        }
        Rig last = new Rig();
        last.core.go(1020);
        ended("a step at 1020", last, 0);
        ended("and at 1024", last, 1);
    }

    /** "or of what is to be loaded (LL, too), is not good". */
    private static void loads() {
        CHECK.sentence(TERMS, "or of what is to be loaded (LL, too), is not good");
        int[][] kinds = {{Asm.LB, 1}, {Asm.LBU, 1}, {Asm.LH, 2}, {Asm.LHU, 2}, {Asm.LW, 4}, {Asm.LL, 4}, {Asm.LWC1, 4},
            {Asm.LDC1, 8}, {Asm.LWL, 1}, {Asm.LWR, 1}};
        accesses(kinds, 1);
    }

    /** "2 STORE: that of what is to be stored (SC, too)": of SC the missing LINK comes first, see below. */
    private static void stores() {
        CHECK.sentence(TERMS, "2 STORE: that of what is to be stored (SC, too)");
        int[][] kinds = {{Asm.SB, 1}, {Asm.SH, 2}, {Asm.SW, 4}, {Asm.SWC1, 4}, {Asm.SDC1, 8}, {Asm.SWL, 1}, {Asm.SWR,
            1}};
        accesses(kinds, 2);
    }

    private static void accesses(int[][] kinds, int kind) {
        for (int[] one : kinds) {
            for (int address = 1008; address < 1032; address++) {
                boolean good = address % one[1] == 0 && address + one[1] <= 1024;
                int word = Asm.access(one[0], 2, 1, 8);
                ends("opcode " + one[0] + " at " + address, word, address - 8, 3, good ? 0 : kind);
            }
            for (int address : new int[] {-8, -1, MIN, MAX - 7, MAX}) {
                ends("opcode " + one[0] + " at " + address, Asm.access(one[0], 2, 1, 0), address, 3, kind);
            }
            ends("the address goes round", Asm.access(one[0], 2, 1, 16), -8, 3, 0);
        }
    }

    /** "3 RESERVED": some of each kind; ReservedTest goes through all. */
    private static void reserved() {
        CHECK.sentence(TERMS, "3 RESERVED");
        for (int word : RESERVED_WORDS) {
            ends(Integer.toHexString(word), word, 512, 512, 3);
        }
    }

    /** "4 OVERFLOW of ADD, ADDI, SUB": the last sum that fits and the first that does not. */
    private static void overflows() {
        CHECK.sentence(TERMS, "4 OVERFLOW of ADD, ADDI, SUB");
        int add = Asm.special(32, 1, 2, 3, 0);
        int sub = Asm.special(34, 1, 2, 3, 0);
        int[][] cases = {{add, MAX, 1, 4}, {add, MAX, 0, 0}, {add, MIN, -1, 4}, {add, MIN, 0, 0}, {add, MAX, MIN, 0},
            {add, MIN, MIN, 4}, {add, MAX, MAX, 4}, {add, 0x40000000, 0x40000000, 4}, {add, 0x40000000, 0x3FFFFFFF, 0},
            {add, -0x40000000, -0x40000000, 0}, {add, -0x40000000, -0x40000001, 4}, {add, -1, 1, 0},
            {sub, MIN, 1, 4}, {sub, MIN, 0, 0}, {sub, 0, MIN, 4}, {sub, -1, MIN, 0}, {sub, MAX, -1, 4}, {sub, MAX,
            MAX, 0},
            {sub, MIN, MIN, 0}, {sub, -2, MAX, 4}, {sub, -1, MAX, 0}};
        for (int[] one : cases) {
            ends("ADD or SUB of " + one[1] + ", " + one[2], one[0], one[1], one[2], one[3]);
        }
        int[][] immediates = {{MAX, 1, 4}, {MAX - 1, 1, 0}, {MIN, -1, 4}, {MIN + 1, -1, 0}, {MAX - 0x7FFE, 0x7FFF, 4},
            {MAX - 0x7FFF, 0x7FFF, 0}, {MIN + 0x7FFF, -0x8000, 4}, {MIN + 0x8000, -0x8000, 0}};
        for (int[] one : immediates) {
            ends("ADDI of " + one[0] + ", " + one[1], Asm.immediate(8, 1, 2, one[1]), one[0], 0, one[2]);
        }
        ends("ADD into 0", Asm.special(32, 1, 2, 0, 0), MAX, 1, 4);
        ends("ADDU has none", Asm.special(33, 1, 2, 3, 0), MAX, 1, 0);
        ends("SUBU has none", Asm.special(35, 1, 2, 3, 0), MIN, 1, 0);
        ends("ADDIU has none", Asm.immediate(9, 1, 2, 1), MAX, 0, 0);
    }

    /** The twelve traps: each kind at equal, next and farthest values, with and without sign. */
    private static void traps() {
        CHECK.sentence(TERMS, "TGE TGEU TLT TLTU TEQ TNE and TGEI TGEIU TLTI TLTIU TEQI TNEI");
        int[] values = {0, 1, -1, 5, MAX, MIN, 0x7FFF, -0x8000, 0x8000};
        for (int a : values) {
            for (int b : values) {
                boolean[] due = {a >= b, Integer.compareUnsigned(a, b) >= 0, a < b, Integer.compareUnsigned(a, b) < 0,
                    a == b, false, a != b};
                for (int k = 0; k < 7; k++) {
                    if (k == 5) {
                        continue;
                    }
                    int word = Asm.special(48 + k, 1, 2, 31, 31);
                    ends("trap " + k + " of " + a + ", " + b, word, a, b, due[k] ? 5 : 0);
                    if (b == (short) b) {
                        ends("trap " + k + " at once", Asm.regimm(8 + k, 1, b), a, 0, due[k] ? 5 : 0);
                    }
                }
            }
        }
    }

    /** "5 TRAP; 6 BREAK; 7 SYSCALL": with the least and the most in their codes. */
    private static void breakAndSyscall() {
        CHECK.sentence(TERMS, "5 TRAP; 6 BREAK; 7 SYSCALL");
        ends("TEQ", Asm.special(52, 1, 2, 0, 0), MIN, MIN, 5);
        ends("TEQ of others", Asm.special(52, 1, 2, 0, 0), MIN, MAX, 0);
        for (int code : new int[] {0, 1, 0x80000, 0xFFFFF}) {
            ends("BREAK " + code, Asm.breakWith(code), 0, 0, 6);
            ends("SYSCALL " + code, Asm.syscall(code), 0, 0, 7);
        }
    }

    /** "8 UNPREDICTABLE: a branch or jump in a slot": every one in every kind of slot, and none behind it. */
    private static void branchInSlot() {
        CHECK.sentence(TERMS, "8 UNPREDICTABLE: a branch or jump in a slot");
        for (int word : BRANCHES) {
            for (int first : new int[] {Asm.j(64), Asm.jal(64), Asm.jr(3), Asm.jalr(4, 3), Asm.beq(0, 0, 3),
                Asm.bne(0, 0, 3), Asm.immediate(20, 0, 0, 3), Asm.regimm(19, 0, 3), Asm.bc1(true, false, 5, 3),
                Asm.bc1(false, true, 5, 3)}) {
                Rig rig = new Rig(first, word).with(3, 64).behind(1);
                CHECK.due("a slot", rig.core.state(2), 1);
                ended("in a slot " + Integer.toHexString(word), rig, 8);
                CHECK.due("still its slot", rig.core.state(2), 1);
            }
            Rig passed = new Rig(Asm.bnel(0, 0, 3), Asm.NOP, word).with(1, 64).behind(1);
            ended("behind a slot that is passed over", passed, 0);
            Rig behind = new Rig(Asm.bne(0, 0, 3), Asm.NOP, word).with(1, 64).behind(2);
            ended("behind a slot that is done", behind, 0);
            Rig target = new Rig(Asm.j(64), Asm.NOP).code(64, word).with(1, 64).behind(2);
            ended("at a target", target, 0);
            Rig gone = new Rig(Asm.j(64), word).with(1, 64).behind(1);
            gone.core.go(4);
            ended("where a slot was, behind go", gone, 0);
        }
    }

    /** "JALR into the register that it asks": each, 0 too. */
    private static void jumpIntoWhatItAsks() {
        CHECK.sentence(TERMS, "JALR into the register that it asks");
        for (int register = 0; register < 32; register++) {
            ends("JALR of " + register + " into itself", Asm.jalr(register, register), 64, 64, 8);
            ends("JALR into another than " + register, Asm.jalr(register ^ 1, register), 64, 64, 0);
        }
    }

    /** "BLTZAL, BGEZAL (likely, too) that ask register 31": whether they would go or not. */
    private static void linkingBranchOf31() {
        CHECK.sentence(TERMS, "BLTZAL, BGEZAL (likely, too) that ask register 31");
        for (int kind = 16; kind < 20; kind++) {
            for (int v : new int[] {8, 0, -1}) {
                ended("linking branch of 31", new Rig(Asm.regimm(kind, 31, 4)).with(31, v), 8);
                ended("other branch of 31", new Rig(Asm.regimm(kind - 16, 31, 4)).with(31, v), 0);
                ended("linking branch of 30", new Rig(Asm.regimm(kind, 30, 4)).with(30, v), 0);
            }
        }
    }

    /** "MFHI, MFLO of what is UNKNOWN, MADD to MSUBU when HI or LO is". */
    private static void unknownHiLo() {
        CHECK.sentence(TERMS, "MFHI, MFLO of what is UNKNOWN, MADD to MSUBU when HI or LO is");
        for (int maker : new int[] {Asm.divu(1, 0), Asm.special(26, 1, 0, 0, 0), Asm.mul(0, 1, 1)}) {
            ended("MFHI of nothing known", behind(maker, Asm.mfhi(3)), 8);
            ended("MFLO of nothing known", behind(maker, Asm.mflo(3)), 8);
            ended("HI known", behind(maker, Asm.mfhi(3)).with(Rig.HI, 2), 0);
            ended("LO unknown", behind(maker, Asm.mflo(3)).with(Rig.HI, 2), 8);
            ended("LO known", behind(maker, Asm.mflo(3)).with(Rig.LO, 2), 0);
            ended("HI unknown", behind(maker, Asm.mfhi(3)).with(Rig.LO, 2), 8);
            for (int function : new int[] {0, 1, 4, 5}) {
                int word = Asm.special2(function, 1, 1, 0);
                ended("MADD to MSUBU with none", behind(maker, word), 8);
                ended("MADD to MSUBU with LO alone", behind(maker, word).with(Rig.LO, 2), 8);
                ended("MADD to MSUBU with HI alone", behind(maker, word).with(Rig.HI, 2), 8);
                ended("MADD to MSUBU", behind(maker, word).with(Rig.HI, 2).with(Rig.LO, 1), 0);
            }
            for (int word : new int[] {Asm.special(24, 1, 1, 0, 0), Asm.special(25, 1, 1, 0, 0), Asm.divu(1, 1),
                Asm.divu(1, 0), Asm.special(26, 1, 1, 0, 0), Asm.mul(2, 1, 1), Asm.mthi(1), Asm.mtlo(1)}) {
                ended("what asks neither", behind(maker, word), 0);
            }
            Rig moved = new Rig(maker, Asm.mthi(1), Asm.mfhi(3), Asm.mtlo(1), Asm.mflo(4)).with(1, 9);
            CHECK.due("MTHI and MTLO make them known", moved.core.run(5), 5);
            CHECK.due("HI", moved.core.get(3), 9);
            CHECK.due("LO", moved.core.get(4), 9);
            Rig again = new Rig(maker, Asm.divu(1, 1), Asm.mfhi(3), Asm.mflo(4)).with(1, 9);
            CHECK.due("DIVU makes them known", again.core.run(4), 4);
        }
    }

    private static Rig behind(int maker, int word) {
        return new Rig(maker, word).with(1, 7).behind(1);
    }

    /** "a double in an odd register (LDC1, SDC1, too)": of each instruction its fd, fs and ft. */
    private static void oddDoubles() {
        CHECK.sentence(TERMS, "a double in an odd register (LDC1, SDC1, too)");
        for (int function : new int[] {0, 1, 2, 3}) {
            oddFields(function, Asm.D, true, true, true);
        }
        for (int function : new int[] {4, 5, 6, 7, 17, 18, 19}) {
            oddFields(function, Asm.D, true, true, false);
        }
        for (int function : new int[] {12, 13, 14, 15, 36, 32}) {
            oddFields(function, Asm.D, false, true, false);
        }
        for (int function = 48; function < 64; function++) {
            oddFields(function, Asm.D, false, true, true);
        }
        oddFields(33, Asm.S, true, false, false);
        oddFields(33, Asm.W, true, false, false);
        oddFields(32, Asm.W, false, false, false);
        for (int function : new int[] {0, 1, 2, 3, 4, 5, 6, 7, 12, 13, 14, 15, 17, 18, 19, 36, 48, 63}) {
            oddFields(function, Asm.S, false, false, false);
        }
        for (int opcode : new int[] {Asm.LDC1, Asm.SDC1}) {
            for (int register = 0; register < 32; register++) {
                int word = Asm.access(opcode, register, 0, Rig.DATA);
                ends("LDC1 or SDC1 of " + register, word, 0, 0, (register & 1) != 0 ? 8 : 0);
            }
        }
    }

    private static void oddFields(int function, int format, boolean fd, boolean fs, boolean ft) {
        String what = "function " + function + " of format " + format;
        ends(what, Asm.fraction(function, format, 4, 6, 8), 0, 0, 0);
        for (int odd : new int[] {1, 31}) {
            ends(what + " fd", Asm.fraction(function, format, odd, 6, 8), 0, 0, fd ? 8 : 0);
            ends(what + " fs", Asm.fraction(function, format, 4, odd, 8), 0, 0, fs ? 8 : 0);
            ends(what + " ft", Asm.fraction(function, format, 4, 6, odd), 0, 0, ft ? 8 : 0);
        }
    }

    /** "SC without a LINK, or at another address than its". */
    private static void conditionalStores() {
        CHECK.sentence(TERMS, "SC without a LINK, or at another address than its");
        ends("SC of a new object", Asm.sc(2, 0, Rig.DATA), 0, 0, 8);
        ends("SC at 0, where no LINK is", Asm.sc(2, 0, 0), 0, 0, 8);
        for (int offset : new int[] {-4, 4, 8, -Rig.DATA, 508}) {
            Rig other = new Rig(Asm.ll(2, 0, Rig.DATA), Asm.sc(2, 0, Rig.DATA + offset)).behind(1);
            ended("SC " + offset + " bytes off", other, 8);
        }
        Rig same = new Rig(Asm.ll(2, 0, Rig.DATA), Asm.sc(2, 0, Rig.DATA), Asm.sc(2, 0, Rig.DATA)).behind(1);
        ended("SC at its address", same, 0);
        ended("a second SC", same, 8);
        Rig failed = new Rig(Asm.ll(2, 0, 2), Asm.sc(2, 0, 2));
        ended("LL at no good address", failed, 1);
        failed.core.go(4);
        ended("makes no LINK", failed, 8);
        Rig gone = new Rig(Asm.ll(2, 0, Rig.DATA), Asm.sc(2, 0, Rig.DATA)).behind(1);
        gone.core.go(4);
        ended("behind go there is none", gone, 8);
    }

    /** "A step that ends changes nothing.": in a slot with a LINK, the whole object beside one that did not take it. */
    private static void nothingChanged() {
        CHECK.sentence(TERMS, "A step that ends changes nothing.");
        int[][] words = {{Asm.lw(2, 0, 1), 1}, {Asm.access(Asm.LWL, 2, 0, -1), 1}, {Asm.ll(2, 0, 1024), 1},
            {Asm.access(Asm.LDC1, 2, 0, 516), 1}, {Asm.sw(2, 0, 1), 2}, {Asm.access(Asm.SDC1, 2, 0, 516), 2},
            {Asm.access(Asm.SWR, 2, 0, -1), 2}, {-1, 3}, {Asm.special(32, 5, 5, 6, 0), 4}, {Asm.immediate(8, 5, 6, 1),
            4},
            {Asm.special(34, 2, 5, 6, 0), 4}, {Asm.special(52, 0, 0, 0, 0), 5}, {Asm.regimm(14, 5, 0), 5},
            {Asm.breakWith(7), 6}, {Asm.syscall(7), 7}, {Asm.jal(0), 8}, {Asm.jalr(6, 5), 8}, {Asm.regimm(19, 0, 1), 8},
            {Asm.regimm(16, 31, 1), 8}, {Asm.bnel(0, 0, 1), 8}, {Asm.mfhi(6), 8}, {Asm.mflo(6), 8},
            {Asm.special2(0, 2, 2, 0), 8}, {Asm.special2(5, 2, 2, 0), 8}, {Asm.fraction(0, Asm.D, 3, 2, 2), 8},
            {Asm.fraction(33, Asm.W, 3, 2, 0), 8}, {Asm.fraction(36, Asm.D, 4, 3, 0), 8},
            {Asm.compare(2, Asm.D, 0, 3, 2), 8}, {Asm.access(Asm.LDC1, 3, 0, 512), 8},
            {Asm.access(Asm.SDC1, 3, 0, 512), 8}, {Asm.sc(2, 0, 516), 8}};
        for (int[] one : words) {
            Rig rig = inSlotWithLink(one[0]);
            String what = Integer.toHexString(one[0]);
            CHECK.due(what + ": done", rig.core.run(10_000), 0);
            CHECK.due(what + ": end", rig.core.end(), one[1]);
            CHECK.due(what, rig.wholePicture(), inSlotWithLink(one[0]).wholePicture());
            if (one[1] == 6 || one[1] == 7) {
                CHECK.due(what + ": passed", rig.core.pass(), 7);
                CHECK.due(what + ": the LINK is left", rig.core.run(1), 1);
            }
        }
    }

    private static Rig inSlotWithLink(int word) {
        return new Rig(Asm.divu(2, 0), Asm.ll(1, 0, 512), Asm.beq(0, 0, 13), word).code(64, Asm.sc(1, 0, 512))
            .code(512, 0x01020304, 0x05060708).with(2, -2).with(5, MAX).with(6, 66).with(Rig.FRACTION + 2, 77)
            .with(Rig.CONDITIONS, 0x55).behind(3);
    }

    /** "Of several: 1 of the step itself, 3, 8, then the others." */
    private static void order() {
        CHECK.sentence(TERMS, "Of several: 1 of the step itself, 3, 8, then the others.");
        for (int word : new int[] {-1, Asm.j(0), Asm.breakWith(1), Asm.sw(1, 0, 1)}) {
            Rig odd = new Rig(Asm.jr(1), Asm.NOP).code(64, word).with(1, 66).behind(2);
            ended("1 of the step itself ahead of all in its word", odd, 1);
        }
        Rig edge = new Rig().code(1020, Asm.j(0));
        edge.core.go(1020);
        ended("1 of the step itself in a slot", edge.behind(1), 1);
        for (int word : RESERVED_WORDS) {
            ended("3 in a slot", new Rig(Asm.j(64), word).behind(1), 3);
        }
        for (int word : new int[] {Asm.fraction(8, Asm.D, 1, 1, 1), Asm.fraction(33, Asm.D, 1, 1, 1),
            Asm.fraction(16, Asm.D, 1, 1, 1), Asm.fraction(37, Asm.S, 1, 1, 1), Asm.fraction(36, Asm.W, 1, 1, 1),
            Asm.regimm(20, 31, 1)}) {
            ends("3 ahead of an odd register, or 31", word, 0, 0, 3);
        }
        ends("8 ahead of 1, LDC1", Asm.access(Asm.LDC1, 3, 0, 4), 0, 0, 8);
        ends("8 ahead of 1, LDC1 behind memory", Asm.access(Asm.LDC1, 3, 0, 1024), 0, 0, 8);
        ends("8 ahead of 2, SDC1", Asm.access(Asm.SDC1, 3, 0, 4), 0, 0, 8);
        ends("8 ahead of 2, SDC1 behind memory", Asm.access(Asm.SDC1, 3, 0, 1024), 0, 0, 8);
        for (int address : new int[] {1, 2, 3, 1024, -4}) {
            ends("8 ahead of 2, SC without a LINK", Asm.sc(2, 0, address), 0, 0, 8);
            Rig linked = new Rig(Asm.ll(2, 0, Rig.DATA), Asm.sc(2, 0, address)).behind(1);
            ended("8 ahead of 2, SC at another address", linked, 8);
        }
        int[][] others = {{Asm.lw(1, 0, 1), 1}, {Asm.sw(1, 0, 1), 2}, {Asm.syscall(1), 7}, {Asm.breakWith(1), 6},
            {Asm.special(52, 0, 0, 0, 0), 5}, {Asm.special(32, 1, 1, 2, 0), 4}, {Asm.jalr(1, 1), 8}, {Asm.sc(1, 0, 2),
            8}};
        for (int[] one : others) {
            Rig rig = new Rig(Asm.j(64), one[0]).with(1, MAX).behind(1);
            ended("no branch in a slot " + Integer.toHexString(one[0]), rig, one[1]);
        }
    }

    /** "(LWL to SWR ask for the one byte.)": none of them needs a multiple of 4, nor a word behind memory. */
    private static void oneByte() {
        CHECK.sentence(TERMS, "(LWL to SWR ask for the one byte.)");
        int[][] opcodes = {{Asm.LWL, 1}, {Asm.LWR, 1}, {Asm.SWL, 2}, {Asm.SWR, 2}};
        for (int[] one : opcodes) {
            for (int address : new int[] {512, 513, 514, 515, 1020, 1021, 1022, 1023}) {
                ends("opcode " + one[0] + " at " + address, Asm.access(one[0], 2, 0, address), 0, 0, 0);
            }
            for (int address : new int[] {-4, -3, -2, -1, 1024, 1025, 1026, 1027}) {
                ends("opcode " + one[0] + " at " + address, Asm.access(one[0], 2, 0, address), 0, 0, one[1]);
            }
        }
        Rig last = new Rig(Asm.access(Asm.LWL, 2, 0, 1023), Asm.access(Asm.LWR, 3, 0, 1020),
            Asm.access(Asm.SWL, 4, 0, 1023), Asm.access(Asm.SWR, 4, 0, 1020))
            .code(1020, 0x11223344).with(2, -1).with(3, -1).with(4, 0x55667788);
        CHECK.due("all are done", last.core.run(4), 4);
        CHECK.due("LWL of the last byte", last.core.get(2), 0x44FFFFFF);
        CHECK.due("LWR of the last word's first byte", last.core.get(3), 0xFFFFFF11);
        CHECK.due("SWL and SWR there", last.core.word(1020), 0x88223355);
    }
}
