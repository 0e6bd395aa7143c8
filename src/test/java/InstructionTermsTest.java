/** Terms, the instructions but those on fractions: a method for each sentence, with its words in its remark. */
public final class InstructionTermsTest {
    private static final Check CHECK = new Check("InstructionTermsTest");
    private static final String TERMS = "Terms, INSTRUCTIONS";
    private static final int MIN = Integer.MIN_VALUE;
    private static final int MAX = Integer.MAX_VALUE;

    private static final int RS = 31 << 21;
    private static final int RT = 31 << 16;
    private static final int SA = 31 << 6;
    private static final int RD_SA = 0x3FF << 6;
    private static final int RS_RT_SA = 0x3FF << 16 | SA;
    private static final int RT_RD_SA = 0x7FFF << 6;
    private static final int CODE = 0xFFFFF << 6;

    public static void main(String[] args) {
        fieldsNotUsed();
        doneRoundTheEdges();
        shiftAmounts();
        immediateEdges();
        linksAtTheEdge();
        countsOfZerosAndOnes();
        nothingDone();
        registerZero();
        registerZeroKeepsEnds();
        unknownByDivisionOrMul();
        divisionThatDoesNotFit();
        links();
        CHECK.close();
    }

    private static Rig rig(int word) {
        Rig rig = new Rig(word).with(8, 0x210).with(9, 3).with(10, 7).with(Rig.HI, 5).with(Rig.LO, 6)
            .withDouble(2, 0x4002000000000000L).withDouble(4, 0x4008800000000000L).with(Rig.CONDITIONS, 0xA5);
        return rig.code(Rig.DATA, 1, 2, 3, 4, 0x12345678, 0x9ABCDEF0);
    }

    /** "(of a word only the fields are looked at that say which instruction it is, and those that it uses)". */
    private static void fieldsNotUsed() {
        CHECK.sentence(TERMS, "of a word only the fields are looked at that say which instruction it is, and those that"
            + " it uses");
        for (int function : new int[] {0, 2, 3}) {
            unused(Asm.special(function, 0, 9, 10, 3), RS);
        }
        for (int function : new int[] {4, 6, 7, 10, 11, 32, 33, 34, 35, 36, 37, 38, 39, 42, 43}) {
            unused(Asm.special(function, 8, 9, 10, 0), SA);
        }
        unused(Asm.special(1, 8, 0, 10, 0), 1 << 17 | SA);
        unused(Asm.special(1, 8, 1, 10, 0), 1 << 17 | SA);
        unused(Asm.special(8, 8, 0, 0, 0), RT_RD_SA);
        unused(Asm.special(9, 8, 0, 10, 0), RT | SA);
        unused(Asm.special(15, 0, 0, 0, 0), CODE);
        unused(Asm.mfhi(10), RS_RT_SA);
        unused(Asm.mflo(10), RS_RT_SA);
        unused(Asm.mthi(8), RT_RD_SA);
        unused(Asm.mtlo(8), RT_RD_SA);
        for (int function : new int[] {24, 25, 26, 27, 48, 49, 50, 51, 52, 54}) {
            unused(Asm.special(function, 8, 9, 0, 0), RD_SA);
            unused(Asm.special(function, 9, 9, 0, 0), RD_SA);
        }
        for (int function : new int[] {0, 1, 4, 5}) {
            unused(Asm.special2(function, 8, 9, 0), RD_SA);
        }
        unused(Asm.special2(2, 8, 9, 10), SA);
        unused(Asm.special2(32, 8, 0, 10), RT | SA);
        unused(Asm.special2(33, 8, 0, 10), RT | SA);
        for (int opcode : new int[] {6, 7, 22, 23}) {
            unused(Asm.immediate(opcode, 8, 0, 4), RT);
        }
        unused(Asm.immediate(15, 0, 10, 0x1234), RS);
        unused(Asm.access(Asm.PREF, 0, 0, 0), 0x03FFFFFF);
        unusedOfFractions();
    }

    private static void unusedOfFractions() {
        unused(0x44000000 | 10 << 16 | 3 << 11, 0x7FF);
        unused(0x44800000 | 8 << 16 | 3 << 11, 0x7FF);
        for (int format : new int[] {Asm.S, Asm.D}) {
            for (int function : new int[] {4, 5, 6, 7, 12, 13, 14, 15, 36}) {
                unused(Asm.fraction(function, format, 6, 2, 0), RT);
            }
            for (int condition = 0; condition < 16; condition++) {
                unused(Asm.compare(condition, format, 3, 2, 4), 3 << 6);
            }
            for (int asked = 0; asked < 2; asked++) {
                unused(Asm.fraction(17, format, 6, 2, asked), 1 << 17);
            }
        }
        unused(Asm.fraction(33, Asm.S, 6, 2, 0), RT);
        unused(Asm.fraction(32, Asm.D, 6, 2, 0), RT);
        unused(Asm.fraction(32, Asm.W, 6, 2, 0), RT);
        unused(Asm.fraction(33, Asm.W, 6, 2, 0), RT);
    }

    /** All of these bits, and each alone, change nothing. */
    private static void unused(int word, int bits) {
        Rig plain = rig(word);
        plain.core.run(1);
        String due = plain.core.end() + " " + plain.picture();
        for (int i = -1; i < 32; i++) {
            int more = i < 0 ? bits : bits & 1 << i;
            if (more != 0) {
                Rig other = rig(word | more);
                other.core.run(1);
                CHECK.due(Integer.toHexString(word | more), other.core.end() + " " + other.picture(), due);
            }
        }
    }

    /** Registers 8 and 9 go in, register 10 comes out. */
    private static void three(String name, int word, int a, int b, int due) {
        Rig rig = new Rig(word).with(8, a).with(9, b).with(10, 7);
        CHECK.due(name + " is done", rig.core.run(1), 1);
        CHECK.due(name + " of " + a + " and " + b, rig.core.get(10), due);
    }

    private static void wide(String name, int word, int a, int b, long before, long due) {
        Rig rig = new Rig(word).with(8, a).with(9, b).with(Rig.HI, (int) (before >>> 32)).with(Rig.LO, (int) before);
        CHECK.due(name + " is done", rig.core.run(1), 1);
        CHECK.due(name + " of " + a + " and " + b + ": HI", rig.core.get(Rig.HI), (int) (due >>> 32));
        CHECK.due(name + " of " + a + " and " + b + ": LO", rig.core.get(Rig.LO), (int) due);
    }

    /** "encoded and done as in [the manual]": sums, products and what is gathered go round. */
    private static void doneRoundTheEdges() {
        CHECK.sentence(TERMS, "encoded and done as in \"MIPS32 Architecture for Programmers\"");
        three("ADDU", Asm.special(33, 8, 9, 10, 0), MAX, 1, MIN);
        three("ADDU", Asm.special(33, 8, 9, 10, 0), -1, 1, 0);
        three("SUBU", Asm.special(35, 8, 9, 10, 0), MIN, 1, MAX);
        three("SUBU", Asm.special(35, 8, 9, 10, 0), 0, MIN, MIN);
        three("SLT", Asm.special(42, 8, 9, 10, 0), MIN, MAX, 1);
        three("SLT", Asm.special(42, 8, 9, 10, 0), MAX, MAX, 0);
        three("SLTU", Asm.special(43, 8, 9, 10, 0), MIN, MAX, 0);
        three("SLTU", Asm.special(43, 8, 9, 10, 0), 0, -1, 1);
        three("MUL", Asm.special2(2, 8, 9, 10), 0x10000, 0x10000, 0);
        three("MUL", Asm.special2(2, 8, 9, 10), MIN, -1, MIN);
        wide("MULT", Asm.special(24, 8, 9, 0, 0), MIN, MIN, 0, 0x4000000000000000L);
        wide("MULT", Asm.special(24, 8, 9, 0, 0), -1, -1, 0, 1);
        wide("MULTU", Asm.special(25, 8, 9, 0, 0), -1, -1, 0, 0xFFFFFFFE00000001L);
        wide("MADD", Asm.special2(0, 8, 9, 0), 1, 1, -1L, 0);
        wide("MADD", Asm.special2(0, 8, 9, 0), 1, 1, Long.MAX_VALUE, Long.MIN_VALUE);
        wide("MADD", Asm.special2(0, 8, 9, 0), 1, -1, 0, -1L);
        wide("MADDU", Asm.special2(1, 8, 9, 0), -1, -1, -1L, 0xFFFFFFFE00000000L);
        wide("MADDU", Asm.special2(1, 8, 9, 0), 1, -1, 1, 0x100000000L);
        wide("MSUB", Asm.special2(4, 8, 9, 0), 1, 1, 0, -1L);
        wide("MSUB", Asm.special2(4, 8, 9, 0), 1, 1, Long.MIN_VALUE, Long.MAX_VALUE);
        wide("MSUBU", Asm.special2(5, 8, 9, 0), 1, -1, 0, 0xFFFFFFFF00000001L);
    }

    /** The same words: a shift has 0 to 31 places, of a register its lowest five bits. */
    private static void shiftAmounts() {
        CHECK.sentence(TERMS, "SLL SRL SRA SLLV SRLV SRAV");
        int v = 0x80000001;
        three("SLL by 0", Asm.special(0, 0, 9, 10, 0), 0, v, v);
        three("SLL by 31", Asm.special(0, 0, 9, 10, 31), 0, v, MIN);
        three("SRL by 0", Asm.special(2, 0, 9, 10, 0), 0, v, v);
        three("SRL by 31", Asm.special(2, 0, 9, 10, 31), 0, v, 1);
        three("SRA by 0", Asm.special(3, 0, 9, 10, 0), 0, v, v);
        three("SRA by 31", Asm.special(3, 0, 9, 10, 31), 0, v, -1);
        int[][] amounts = {{0, v, v, v}, {31, MIN, 1, -1}, {32, v, v, v}, {33, 2, 0x40000000, 0xC0000000},
            {-1, MIN, 1, -1}, {-32, v, v, v}, {MIN, v, v, v}, {MAX, MIN, 1, -1}};
        for (int[] one : amounts) {
            three("SLLV", Asm.special(4, 8, 9, 10, 0), one[0], v, one[1]);
            three("SRLV", Asm.special(6, 8, 9, 10, 0), one[0], v, one[2]);
            three("SRAV", Asm.special(7, 8, 9, 10, 0), one[0], v, one[3]);
        }
    }

    /** The same words: sixteen bits with their sign, but of ANDI, ORI, XORI and LUI without. */
    private static void immediateEdges() {
        CHECK.sentence(TERMS, "ADDI ADDIU SLTI SLTIU ANDI ORI XORI LUI");
        three("ADDI", Asm.immediate(8, 8, 10, -0x8000), MIN + 0x8000, 0, MIN);
        three("ADDI", Asm.immediate(8, 8, 10, 0x7FFF), MAX - 0x7FFF, 0, MAX);
        three("ADDIU", Asm.immediate(9, 8, 10, 1), MAX, 0, MIN);
        three("ADDIU", Asm.immediate(9, 8, 10, -1), MIN, 0, MAX);
        three("ADDIU", Asm.immediate(9, 8, 10, -0x8000), 0, 0, -0x8000);
        three("SLTI", Asm.immediate(10, 8, 10, -0x8000), -0x8001, 0, 1);
        three("SLTI", Asm.immediate(10, 8, 10, -0x8000), -0x8000, 0, 0);
        three("SLTI", Asm.immediate(10, 8, 10, 0x7FFF), 0x7FFF, 0, 0);
        three("SLTIU", Asm.immediate(11, 8, 10, -1), -2, 0, 1);
        three("SLTIU", Asm.immediate(11, 8, 10, -1), -1, 0, 0);
        three("SLTIU", Asm.immediate(11, 8, 10, -0x8000), 0x8000, 0, 1);
        three("SLTIU", Asm.immediate(11, 8, 10, 0), 0, 0, 0);
        three("ANDI", Asm.immediate(12, 8, 10, 0xFFFF), -1, 0, 0xFFFF);
        three("ORI", Asm.immediate(13, 8, 10, 0x8000), 0, 0, 0x8000);
        three("XORI", Asm.immediate(14, 8, 10, 0xFFFF), -1, 0, 0xFFFF0000);
        three("LUI", Asm.immediate(15, 0, 10, 0xFFFF), 0, 0, 0xFFFF0000);
        three("LUI", Asm.immediate(15, 0, 10, 0), 0, 0, 0);
    }

    /** The same words: a link is the address behind the slot, also where memory has none; targets at their edges. */
    private static void linksAtTheEdge() {
        CHECK.sentence(TERMS, "J JAL JR JALR, BEQ BNE BLEZ BGTZ BLTZ BGEZ BLTZAL BGEZAL and all eight with L behind"
            + " (likely)");
        for (int word : new int[] {Asm.jal(0), Asm.jalr(31, 8), Asm.regimm(16, 8, 0), Asm.regimm(17, 8, 0),
            Asm.regimm(18, 8, 0), Asm.regimm(19, 8, 0)}) {
            for (int address : new int[] {0, 1016, 1020}) {
                Rig rig = new Rig().code(address, word);
                rig.core.go(address);
                CHECK.due(Integer.toHexString(word), rig.core.run(1), 1);
                CHECK.due("its link at " + address, rig.core.get(31), address + 8);
            }
        }
        int[][] targets = {{Asm.beq(0, 0, 0x7FFF), 0x20000}, {Asm.beq(0, 0, -0x8000), 4 - 0x20000},
            {Asm.beq(0, 0, -1), 0}, {Asm.j(0), 0}, {Asm.j(0x0FFFFFFC), 0x0FFFFFFC}, {Asm.jal(0x0FFFFFFC), 0x0FFFFFFC}};
        for (int[] one : targets) {
            Rig rig = new Rig(one[0]).behind(1);
            CHECK.due("target of " + Integer.toHexString(one[0]), rig.core.state(1), one[1]);
        }
    }

    /** "CLZ CLO (the result goes to rd)": from none to all 32, and rt is left alone. */
    private static void countsOfZerosAndOnes() {
        CHECK.sentence(TERMS, "CLZ CLO (the result goes to rd)");
        int[][] cases = {{0, 32, 0}, {1, 31, 0}, {MAX, 1, 0}, {MIN, 0, 1}, {-1, 0, 32}, {-2, 0, 31}, {0xFFFF0000, 0,
            16},
            {0x0000FFFF, 16, 0}};
        for (int[] one : cases) {
            three("CLZ", Asm.special2(32, 8, 9, 10), one[0], 9, one[1]);
            three("CLO", Asm.special2(33, 8, 9, 10), one[0], 9, one[2]);
            Rig rig = new Rig(Asm.special2(32, 8, 9, 10), Asm.special2(33, 8, 9, 10)).with(8, one[0]).with(9, 55);
            rig.core.run(2);
            CHECK.due("rt", rig.core.get(9), 55);
        }
    }

    /** "SYNC and PREF (which do nothing)": at no good address, too, and they are no loads. */
    private static void nothingDone() {
        CHECK.sentence(TERMS, "SYNC and PREF (which do nothing)");
        for (int word : new int[] {Asm.special(15, 0, 0, 0, 0), Asm.access(Asm.PREF, 0, 0, 512),
            Asm.access(Asm.PREF, 31, 8, 3), Asm.access(Asm.PREF, 1, 9, 0x7FFF)}) {
            for (int register : new int[] {0, 1023, MIN, MAX, -1}) {
                Rig plain = new Rig(Asm.NOP).with(8, register).with(9, -register).behind(1);
                Rig rig = new Rig(word).with(8, register).with(9, -register).behind(1);
                CHECK.due("a step as any other", rig.core.end() + " " + rig.picture(), "0 " + plain.picture());
            }
        }
    }

    private static final int[] INTO_ZERO = {Asm.special(0, 0, 9, 0, 1), Asm.special(2, 0, 9, 0, 1),
        Asm.special(3, 0, 9, 0, 1), Asm.special(4, 9, 9, 0, 0), Asm.special(6, 0, 9, 0, 0), Asm.special(7, 0, 9, 0, 0),
        Asm.special(1, 9, 0, 0, 0), Asm.special(10, 9, 0, 0, 0), Asm.special(11, 9, 9, 0, 0),
        Asm.special(32, 9, 9, 0, 0), Asm.special(33, 9, 9, 0, 0), Asm.special(34, 9, 8, 0, 0),
        Asm.special(35, 9, 8, 0, 0), Asm.special(36, 9, 9, 0, 0), Asm.special(37, 9, 9, 0, 0),
        Asm.special(38, 9, 8, 0, 0), Asm.special(39, 9, 9, 0, 0), Asm.special(42, 0, 9, 0, 0),
        Asm.special(43, 0, 9, 0, 0), Asm.immediate(8, 9, 0, 5), Asm.immediate(9, 9, 0, 5), Asm.immediate(10, 0, 0, 5),
        Asm.immediate(11, 0, 0, 5), Asm.immediate(12, 9, 0, 255), Asm.immediate(13, 9, 0, 5), Asm.immediate(14, 9, 0,
        5),
        Asm.immediate(15, 0, 0, 5), Asm.special2(32, 9, 0, 0), Asm.special2(33, 10, 0, 0), Asm.special2(2, 9, 9, 0),
        Asm.mfhi(0), Asm.mflo(0), Asm.access(Asm.LB, 0, 0, 512), Asm.access(Asm.LBU, 0, 0, 512),
        Asm.access(Asm.LH, 0, 0, 512), Asm.access(Asm.LHU, 0, 0, 512), Asm.lw(0, 0, 512), Asm.access(Asm.LWL, 0, 0,
        513),
        Asm.access(Asm.LWR, 0, 0, 514), Asm.ll(0, 0, 512), 0x44000000 | 2 << 11, Asm.jalr(0, 9)};

    /** "What is written into register 0 is lost.": of every instruction that writes one. */
    private static void registerZero() {
        CHECK.sentence(TERMS, "What is written into register 0 is lost.");
        for (int word : INTO_ZERO) {
            Rig rig = new Rig(word, Asm.special(33, 0, 0, 11, 0)).with(8, 3).with(9, 64).with(10, -1).with(11, 5)
                .with(Rig.HI, 7).with(Rig.LO, 8).with(Rig.FRACTION + 2, 9).code(512, 0x91929394);
            CHECK.due(Integer.toHexString(word), rig.core.run(2), 2);
            CHECK.due("register 0", rig.core.get(0), 0);
            CHECK.due("as it is read", rig.core.get(11), 0);
        }
        Rig conditional = new Rig(Asm.ll(1, 0, 512), Asm.sc(0, 0, 512)).code(512, 6);
        CHECK.due("SC of 0", conditional.core.run(2), 2);
        CHECK.due("puts no 1", conditional.core.get(0), 0);
        CHECK.due("stores 0", conditional.core.word(512), 0);
        Rig linked = new Rig(Asm.ll(0, 0, 512), Asm.sc(9, 0, 512)).with(9, 4);
        CHECK.due("LL into 0 makes a LINK", linked.core.run(2), 2);
        Rig mul = new Rig(Asm.mul(0, 9, 9)).behind(1);
        CHECK.throwing("MUL into 0 makes HI UNKNOWN", IllegalStateException.class, () -> mul.core.get(Rig.HI));
        CHECK.due("LW into 0 is a load", new Rig(Asm.lw(0, 0, 512)).behind(1).core.state(4), 1);
    }

    /** The same sentence: only what is written is lost; an end comes as of any register. */
    private static void registerZeroKeepsEnds() {
        CHECK.sentence(TERMS, "What is written into register 0 is lost");
        CHECK.due("ADD", new Rig(Asm.special(32, 8, 8, 0, 0)).with(8, MAX).endAfter(1), 4);
        CHECK.due("ADDI", new Rig(Asm.immediate(8, 8, 0, 1)).with(8, MAX).endAfter(1), 4);
        CHECK.due("SUB", new Rig(Asm.special(34, 8, 9, 0, 0)).with(8, MIN).with(9, 1).endAfter(1), 4);
        CHECK.due("LW", new Rig(Asm.lw(0, 0, 2)).endAfter(1), 1);
        CHECK.due("LL", new Rig(Asm.ll(0, 0, 1024)).endAfter(1), 1);
        CHECK.due("MFHI", new Rig(Asm.divu(8, 0), Asm.mfhi(0)).endAfter(2), 8);
        CHECK.due("JALR of 0 into 0", new Rig(Asm.jalr(0, 0)).endAfter(1), 8);
    }

    /** "DIV and DIVU by 0 make HI and LO UNKNOWN, so does MUL": whatever is divided or multiplied. */
    private static void unknownByDivisionOrMul() {
        CHECK.sentence(TERMS, "DIV and DIVU by 0 make HI and LO UNKNOWN, so does MUL");
        for (int v : new int[] {0, 1, -1, MIN, MAX}) {
            for (int word : new int[] {Asm.special(26, 8, 0, 0, 0), Asm.special(26, 8, 9, 0, 0), Asm.divu(8, 0),
                Asm.divu(8, 9), Asm.mul(10, 8, 9), Asm.mul(0, 0, 0), Asm.mul(8, 8, 8)}) {
                Rig rig = new Rig(word).with(8, v).with(Rig.HI, 3).with(Rig.LO, 4);
                CHECK.due("it is done", rig.core.run(1), 1);
                CHECK.throwing("HI", IllegalStateException.class, () -> rig.core.get(Rig.HI));
                CHECK.throwing("LO", IllegalStateException.class, () -> rig.core.get(Rig.LO));
            }
        }
        for (int word : new int[] {Asm.special(24, 8, 9, 0, 0), Asm.special(25, 8, 9, 0, 0), Asm.special(26, 8, 9, 0,
            0),
            Asm.divu(8, 9)}) {
            Rig known = new Rig(Asm.mul(0, 0, 0), word, Asm.mfhi(1), Asm.mflo(2)).with(8, 9).with(9, 2);
            CHECK.due("known by MULT, MULTU, DIV, DIVU", known.core.run(4), 4);
        }
    }

    /** "DIV of -2^31 by -1 is LO -2^31, HI 0": and its neighbours. */
    private static void divisionThatDoesNotFit() {
        CHECK.sentence(TERMS, "DIV of -2^31 by -1 is LO -2^31, HI 0.");
        int[][] cases = {{26, MIN, -1, MIN, 0}, {26, MIN, 1, MIN, 0}, {26, MIN + 1, -1, MAX, 0}, {26, MAX, -1, -MAX, 0},
            {26, MIN, MIN, 1, 0}, {26, MIN, MAX, -1, -1}, {26, MAX, MIN, 0, MAX}, {26, -7, 2, -3, -1}, {26, 7, -2, -3,
            1},
            {27, MIN, -1, 0, MIN}, {27, -1, MIN, 1, MAX}, {27, -1, 1, -1, 0}, {27, -1, -1, 1, 0}, {27, 0, -1, 0, 0},
            {26, 0, -1, 0, 0}};
        for (int[] one : cases) {
            Rig rig = new Rig(Asm.special(one[0], 8, 9, 0, 0)).with(8, one[1]).with(9, one[2]).with(Rig.HI, 55);
            CHECK.due("it is done", rig.core.run(1), 1);
            CHECK.due(one[1] + " by " + one[2] + ": LO", rig.core.get(Rig.LO), one[3]);
            CHECK.due(one[1] + " by " + one[2] + ": HI", rig.core.get(Rig.HI), one[4]);
        }
    }

    /** "LL makes a LINK with its address; SC stores and puts 1 into its register, and there is no LINK any more." */
    private static void links() {
        CHECK.sentence(TERMS,
            "LL makes a LINK with its address; SC stores and puts 1 into its register, and there is no"
            + " LINK any more.");
        for (int address : new int[] {0, 512, 1020}) {
            Rig rig = new Rig().code(16, Asm.ll(1, 8, 0), Asm.sc(2, 9, 4), Asm.sc(2, 9, 4))
                .code(address, 0x01020304).with(8, address).with(9, address - 4).with(2, 0x7F7E7D7C);
            rig.core.go(16);
            CHECK.due("LL and SC at " + address, rig.core.run(3), 2);
            CHECK.due("loaded", rig.core.get(1), 0x01020304);
            CHECK.due("stored", rig.core.word(address), 0x7F7E7D7C);
            CHECK.due("1 is put", rig.core.get(2), 1);
            CHECK.due("no LINK any more", rig.core.end(), 8);
            CHECK.due("PC", rig.core.state(0), 24);
        }
        Rig twice = new Rig(Asm.ll(1, 0, 512), Asm.ll(1, 0, 516), Asm.sc(2, 0, 516), Asm.sc(2, 0, 512)).with(2, 3);
        CHECK.due("the later LL counts", twice.core.run(9), 3);
        CHECK.due("the earlier is gone with it", twice.core.end(), 8);
        Rig sameRegister = new Rig(Asm.ll(8, 8, 0), Asm.sc(9, 9, 0)).with(8, 512).with(9, 512);
        CHECK.due("into the register of the address", sameRegister.core.run(2), 2);
        CHECK.due("what it held is stored", sameRegister.core.word(512), 512);
        CHECK.due("1 is put over it", sameRegister.core.get(9), 1);
    }
}
