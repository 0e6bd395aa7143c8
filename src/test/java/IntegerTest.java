import java.util.Random;

/** Terms, the instructions on registers, HI and LO: each list of the document, against the Java library. */
public final class IntegerTest {
    private interface Rule {
        int of(int a, int b);
    }

    private interface Wide {
        long of(int a, int b, long before);
    }

    private static final int[] EDGES = {0, 1, -1, 2, -2, 31, 32, 33, 0x7FFF, 0x8000, -0x8000, -0x8001, 0xFFFF,
        0x10000, 0x12345678, 0x80000000, 0x80000001, 0x7FFFFFFF, 0x7FFFFFFE, 0xAAAAAAAA};
    private static final Random RANDOM = new Random(1);
    private static final Check CHECK = new Check("IntegerTest");
    private static final String TERMS = "Terms, INSTRUCTIONS";

    public static void main(String[] args) {
        threeRegisters();
        shifts();
        immediates();
        moves();
        hiAndLo();
        registerZero();
        fieldsNotUsed();
        CHECK.close();
    }

    private static void pairs(String name, int word, Rule rule) {
        for (int a : EDGES) {
            for (int b : EDGES) {
                one(name, word, a, b, rule.of(a, b));
            }
        }
        for (int i = 0; i < 300; i++) {
            int a = RANDOM.nextInt();
            int b = RANDOM.nextInt();
            one(name, word, a, b, rule.of(a, b));
        }
    }

    /** Registers 8 and 9 go in, register 10 comes out (7 before). */
    private static void one(String name, int word, int a, int b, int due) {
        Rig rig = new Rig(word).with(8, a).with(9, b).with(10, 7);
        CHECK.due(name + " runs", rig.core.run(1), 1);
        CHECK.due(name + " of " + a + ", " + b, rig.core.get(10), due);
        CHECK.due(name + " leaves rs", rig.core.get(8), a);
        CHECK.due(name + " leaves rt", rig.core.get(9), b);
    }

    private static int word(int function) {
        return Asm.special(function, 8, 9, 10, 0);
    }

    private static void threeRegisters() {
        CHECK.sentence(TERMS, "ADD ADDU SUB SUBU AND OR XOR NOR SLT SLTU");
        pairs("SLLV", word(4), (a, b) -> b << (a & 31));
        pairs("SRLV", word(6), (a, b) -> b >>> (a & 31));
        pairs("SRAV", word(7), (a, b) -> b >> (a & 31));
        pairs("MOVZ", word(10), (a, b) -> b == 0 ? a : 7);
        pairs("MOVN", word(11), (a, b) -> b != 0 ? a : 7);
        pairs("ADDU", word(33), (a, b) -> a + b);
        pairs("SUBU", word(35), (a, b) -> a - b);
        pairs("AND", word(36), (a, b) -> a & b);
        pairs("OR", word(37), (a, b) -> a | b);
        pairs("XOR", word(38), (a, b) -> a ^ b);
        pairs("NOR", word(39), (a, b) -> ~a & ~b);
        pairs("SLT", word(42), (a, b) -> a < b ? 1 : 0);
        pairs("SLTU", word(43), (a, b) -> Integer.compareUnsigned(a, b) < 0 ? 1 : 0);
        pairs("CLZ", Asm.special2(32, 8, 9, 10), (a, b) -> Integer.numberOfLeadingZeros(a));
        pairs("CLO", Asm.special2(33, 8, 9, 10), (a, b) -> Integer.numberOfLeadingZeros(~a));
        pairs("MUL", Asm.special2(2, 8, 9, 10), (a, b) -> a * b);
        for (int a : EDGES) {
            for (int b : EDGES) {
                if ((long) a + b == a + b) {
                    one("ADD", word(32), a, b, a + b);
                }
                if ((long) a - b == a - b) {
                    one("SUB", word(34), a, b, a - b);
                }
            }
        }
    }

    private static void shifts() {
        CHECK.sentence(TERMS, "SLL SRL SRA SLLV SRLV SRAV");
        for (int sa = 0; sa < 32; sa++) {
            int by = sa;
            pairs("SLL", Asm.special(0, 8, 9, 10, sa), (a, b) -> b << by);
            pairs("SRL", Asm.special(2, 8, 9, 10, sa), (a, b) -> b >>> by);
            pairs("SRA", Asm.special(3, 8, 9, 10, sa), (a, b) -> b >> by);
        }
    }

    private static void immediates() {
        CHECK.sentence(TERMS, "ADDI ADDIU SLTI SLTIU ANDI ORI XORI LUI");
        for (int value : new int[] {0, 1, -1, 2, 0x7FFF, -0x8000, 0x1234, -0x1234}) {
            int low = value & 0xFFFF;
            pairs("ADDIU", Asm.immediate(9, 8, 10, value), (a, b) -> a + value);
            pairs("SLTI", Asm.immediate(10, 8, 10, value), (a, b) -> a < value ? 1 : 0);
            pairs("SLTIU", Asm.immediate(11, 8, 10, value), (a, b) -> Integer.compareUnsigned(a, value) < 0 ? 1 : 0);
            pairs("ANDI", Asm.immediate(12, 8, 10, value), (a, b) -> a & low);
            pairs("ORI", Asm.immediate(13, 8, 10, value), (a, b) -> a | low);
            pairs("XORI", Asm.immediate(14, 8, 10, value), (a, b) -> a ^ low);
            pairs("LUI", Asm.immediate(15, 8, 10, value), (a, b) -> low << 16);
            for (int a : EDGES) {
                if ((long) a + value == a + value) {
                    one("ADDI", Asm.immediate(8, 8, 10, value), a, 0, a + value);
                }
            }
        }
    }

    private static void moves() {
        CHECK.sentence(TERMS, "MOVZ MOVN MOVF MOVT");
        for (int cc = 0; cc < 8; cc++) {
            for (int asked = 0; asked < 2; asked++) {
                for (int conditions : new int[] {0, 255, 1 << cc, 255 ^ 1 << cc}) {
                    Rig rig = new Rig(Asm.special(1, 8, cc << 2 | asked, 10, 0))
                        .with(8, 5).with(10, 7).with(Rig.CONDITIONS, conditions);
                    rig.core.run(1);
                    boolean moved = (conditions >> cc & 1) == asked;
                    CHECK.due("MOVF and MOVT", rig.core.get(10), moved ? 5 : 7);
                }
            }
        }
        Rig rig = new Rig(Asm.mthi(8), Asm.mtlo(9), Asm.mfhi(10), Asm.mflo(11)).with(8, 3).with(9, 4);
        rig.core.run(4);
        CHECK.due("MFHI", rig.core.get(10), 3);
        CHECK.due("MFLO", rig.core.get(11), 4);
    }

    private static void wide(String name, int word, Wide rule) {
        for (int a : EDGES) {
            for (int b : EDGES) {
                for (long before : new long[] {0, -1, 0x123456789ABCDEFL, Long.MIN_VALUE, Long.MAX_VALUE}) {
                    Rig rig = new Rig(word).with(8, a).with(9, b)
                        .with(Rig.HI, (int) (before >>> 32)).with(Rig.LO, (int) before);
                    CHECK.due(name + " runs", rig.core.run(1), 1);
                    long got = (long) rig.core.get(Rig.HI) << 32 | rig.core.get(Rig.LO) & 0xFFFFFFFFL;
                    CHECK.due(name + " of " + a + ", " + b, got, rule.of(a, b, before));
                }
            }
        }
    }

    private static long unsignedProduct(int a, int b) {
        return Integer.toUnsignedLong(a) * Integer.toUnsignedLong(b);
    }

    private static long pair(int hi, int lo) {
        return (long) hi << 32 | Integer.toUnsignedLong(lo);
    }

    private static void hiAndLo() {
        CHECK.sentence(TERMS, "MULT MULTU DIV DIVU MADD MADDU MSUB MSUBU MUL MFHI MFLO MTHI MTLO");
        wide("MULT", word(24), (a, b, before) -> (long) a * b);
        wide("MULTU", word(25), (a, b, before) -> unsignedProduct(a, b));
        wide("MADD", Asm.special2(0, 8, 9, 0), (a, b, before) -> before + (long) a * b);
        wide("MADDU", Asm.special2(1, 8, 9, 0), (a, b, before) -> before + unsignedProduct(a, b));
        wide("MSUB", Asm.special2(4, 8, 9, 0), (a, b, before) -> before - (long) a * b);
        wide("MSUBU", Asm.special2(5, 8, 9, 0), (a, b, before) -> before - unsignedProduct(a, b));
        for (int a : EDGES) {
            for (int b : EDGES) {
                if (b != 0) {
                    division(26, a, b, pair(a % b, a / b));
                    division(27, a, b, pair(Integer.remainderUnsigned(a, b), Integer.divideUnsigned(a, b)));
                }
            }
        }
        division(26, Integer.MIN_VALUE, -1, pair(0, Integer.MIN_VALUE));
    }

    private static void division(int function, int a, int b, long due) {
        Rig rig = new Rig(word(function)).with(8, a).with(9, b);
        CHECK.due("division runs", rig.core.run(1), 1);
        CHECK.due("division " + function + " of " + a + ", " + b, pair(rig.core.get(32), rig.core.get(33)), due);
    }

    private static void registerZero() {
        CHECK.sentence(TERMS, "What is written into register 0 is lost.");
        int[] code = {Asm.addiu(0, 0, 5), Asm.special(33, 8, 8, 0, 0), Asm.lw(0, 0, 0), Asm.special2(32, 8, 0, 0),
            Asm.immediate(15, 0, 0, 9), Asm.mflo(0), Asm.special(10, 8, 0, 0, 0), 0x44000000, Asm.jalr(0, 9)};
        Rig rig = new Rig(code).with(8, 3).with(9, 64).with(Rig.LO, 6).with(Rig.FRACTION, 4);
        CHECK.due("runs", rig.core.run(code.length), code.length);
        CHECK.due("register 0", rig.core.get(0), 0);
        Rig link = new Rig(Asm.ll(0, 0, Rig.DATA), Asm.sc(0, 0, Rig.DATA)).with(8, 3);
        link.core.put(Rig.DATA, 5);
        CHECK.due("LL and SC run", link.core.run(2), 2);
        CHECK.due("register 0", link.core.get(0), 0);
        CHECK.due("what SC stored", link.core.word(Rig.DATA), 0);
    }

    /** Fields that neither say which instruction it is nor are used may hold anything. */
    private static void fieldsNotUsed() {
        CHECK.sentence(TERMS, "of a word only the fields are looked at that say which instruction it is");
        one("ADDU", Asm.special(33, 8, 9, 10, 31), 2, 3, 5);
        one("SLL", Asm.special(0, 31, 9, 10, 1), 2, 3, 6);
        one("SRL, not a rotation", Asm.special(2, 1, 9, 10, 1), 2, 3, 1);
        one("SRLV, not a rotation", Asm.special(6, 8, 9, 10, 1), 1, 3, 1);
        one("LUI", Asm.immediate(15, 31, 10, 1), 2, 3, 65536);
        one("CLZ goes to rd", Asm.special2(32, 8, 0, 10), 1, 3, 31);
        one("MUL", Asm.special2(2, 8, 9, 10) | 31 << 6, 2, 3, 6);
        one("MOVF", Asm.special(1, 8, 2, 10, 31), 2, 3, 2);
        Rig hi = new Rig(Asm.special(16, 31, 31, 10, 31)).with(Rig.HI, 4);
        hi.core.run(1);
        CHECK.due("MFHI", hi.core.get(10), 4);
        Rig blez = new Rig(Asm.immediate(6, 0, 31, 4)).with(31, 5);
        blez.core.run(1);
        CHECK.due("BLEZ looks at rs alone", blez.core.state(1), 20);
        Rig jr = new Rig(Asm.special(8, 9, 31, 31, 31)).with(9, 64);
        jr.core.run(1);
        CHECK.due("JR", jr.core.state(1), 64);
        Rig mfc1 = new Rig(0x44000000 | 10 << 16 | 3 << 11 | 0x7FF).with(Rig.FRACTION + 3, 6);
        mfc1.core.run(1);
        CHECK.due("MFC1", mfc1.core.get(10), 6);
    }
}
