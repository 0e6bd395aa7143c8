import java.util.ArrayList;
import java.util.List;

/**
 * A second reading of the document, for comparison: encodings written out bit by bit, memory as
 * bytes, what is unknown as null, fractions by Java's own arithmetic.
 */
final class Model {
    /** Letters stand for bits that do not say which instruction it is; blanks only part the fields. */
    static final String[] TABLE = {
        "SLL     000000 sssss ttttt ddddd aaaaa 000000", "SRL     000000 sssss ttttt ddddd aaaaa 000010",
        "SRA     000000 sssss ttttt ddddd aaaaa 000011", "SLLV    000000 sssss ttttt ddddd aaaaa 000100",
        "SRLV    000000 sssss ttttt ddddd aaaaa 000110", "SRAV    000000 sssss ttttt ddddd aaaaa 000111",
        "MOVF    000000 sssss cccx0 ddddd aaaaa 000001", "MOVT    000000 sssss cccx1 ddddd aaaaa 000001",
        "JR      000000 sssss ttttt ddddd aaaaa 001000", "JALR    000000 sssss ttttt ddddd aaaaa 001001",
        "MOVZ    000000 sssss ttttt ddddd aaaaa 001010", "MOVN    000000 sssss ttttt ddddd aaaaa 001011",
        "SYSCALL 000000 sssss ttttt ddddd aaaaa 001100", "BREAK   000000 sssss ttttt ddddd aaaaa 001101",
        "SYNC    000000 sssss ttttt ddddd aaaaa 001111", "MFHI    000000 sssss ttttt ddddd aaaaa 010000",
        "MTHI    000000 sssss ttttt ddddd aaaaa 010001", "MFLO    000000 sssss ttttt ddddd aaaaa 010010",
        "MTLO    000000 sssss ttttt ddddd aaaaa 010011", "MULT    000000 sssss ttttt ddddd aaaaa 011000",
        "MULTU   000000 sssss ttttt ddddd aaaaa 011001", "DIV     000000 sssss ttttt ddddd aaaaa 011010",
        "DIVU    000000 sssss ttttt ddddd aaaaa 011011", "ADD     000000 sssss ttttt ddddd aaaaa 100000",
        "ADDU    000000 sssss ttttt ddddd aaaaa 100001", "SUB     000000 sssss ttttt ddddd aaaaa 100010",
        "SUBU    000000 sssss ttttt ddddd aaaaa 100011", "AND     000000 sssss ttttt ddddd aaaaa 100100",
        "OR      000000 sssss ttttt ddddd aaaaa 100101", "XOR     000000 sssss ttttt ddddd aaaaa 100110",
        "NOR     000000 sssss ttttt ddddd aaaaa 100111", "SLT     000000 sssss ttttt ddddd aaaaa 101010",
        "SLTU    000000 sssss ttttt ddddd aaaaa 101011", "TGE     000000 sssss ttttt ddddd aaaaa 110000",
        "TGEU    000000 sssss ttttt ddddd aaaaa 110001", "TLT     000000 sssss ttttt ddddd aaaaa 110010",
        "TLTU    000000 sssss ttttt ddddd aaaaa 110011", "TEQ     000000 sssss ttttt ddddd aaaaa 110100",
        "TNE     000000 sssss ttttt ddddd aaaaa 110110",
        "BLTZ    000001 sssss 00000 iiiiiiiiiiiiiiii", "BGEZ    000001 sssss 00001 iiiiiiiiiiiiiiii",
        "BLTZL   000001 sssss 00010 iiiiiiiiiiiiiiii", "BGEZL   000001 sssss 00011 iiiiiiiiiiiiiiii",
        "TGEI    000001 sssss 01000 iiiiiiiiiiiiiiii", "TGEIU   000001 sssss 01001 iiiiiiiiiiiiiiii",
        "TLTI    000001 sssss 01010 iiiiiiiiiiiiiiii", "TLTIU   000001 sssss 01011 iiiiiiiiiiiiiiii",
        "TEQI    000001 sssss 01100 iiiiiiiiiiiiiiii", "TNEI    000001 sssss 01110 iiiiiiiiiiiiiiii",
        "BLTZAL  000001 sssss 10000 iiiiiiiiiiiiiiii", "BGEZAL  000001 sssss 10001 iiiiiiiiiiiiiiii",
        "BLTZALL 000001 sssss 10010 iiiiiiiiiiiiiiii", "BGEZALL 000001 sssss 10011 iiiiiiiiiiiiiiii",
        "J       000010 jjjjjjjjjjjjjjjjjjjjjjjjjj", "JAL     000011 jjjjjjjjjjjjjjjjjjjjjjjjjj",
        "BEQ     000100 sssss ttttt iiiiiiiiiiiiiiii", "BNE     000101 sssss ttttt iiiiiiiiiiiiiiii",
        "BLEZ    000110 sssss ttttt iiiiiiiiiiiiiiii", "BGTZ    000111 sssss ttttt iiiiiiiiiiiiiiii",
        "ADDI    001000 sssss ttttt iiiiiiiiiiiiiiii", "ADDIU   001001 sssss ttttt iiiiiiiiiiiiiiii",
        "SLTI    001010 sssss ttttt iiiiiiiiiiiiiiii", "SLTIU   001011 sssss ttttt iiiiiiiiiiiiiiii",
        "ANDI    001100 sssss ttttt iiiiiiiiiiiiiiii", "ORI     001101 sssss ttttt iiiiiiiiiiiiiiii",
        "XORI    001110 sssss ttttt iiiiiiiiiiiiiiii", "LUI     001111 sssss ttttt iiiiiiiiiiiiiiii",
        "BEQL    010100 sssss ttttt iiiiiiiiiiiiiiii", "BNEL    010101 sssss ttttt iiiiiiiiiiiiiiii",
        "BLEZL   010110 sssss ttttt iiiiiiiiiiiiiiii", "BGTZL   010111 sssss ttttt iiiiiiiiiiiiiiii",
        "MADD    011100 sssss ttttt ddddd aaaaa 000000", "MADDU   011100 sssss ttttt ddddd aaaaa 000001",
        "MUL     011100 sssss ttttt ddddd aaaaa 000010", "MSUB    011100 sssss ttttt ddddd aaaaa 000100",
        "MSUBU   011100 sssss ttttt ddddd aaaaa 000101", "CLZ     011100 sssss ttttt ddddd aaaaa 100000",
        "CLO     011100 sssss ttttt ddddd aaaaa 100001",
        "LB      100000 sssss ttttt iiiiiiiiiiiiiiii", "LH      100001 sssss ttttt iiiiiiiiiiiiiiii",
        "LWL     100010 sssss ttttt iiiiiiiiiiiiiiii", "LW      100011 sssss ttttt iiiiiiiiiiiiiiii",
        "LBU     100100 sssss ttttt iiiiiiiiiiiiiiii", "LHU     100101 sssss ttttt iiiiiiiiiiiiiiii",
        "LWR     100110 sssss ttttt iiiiiiiiiiiiiiii", "SB      101000 sssss ttttt iiiiiiiiiiiiiiii",
        "SH      101001 sssss ttttt iiiiiiiiiiiiiiii", "SWL     101010 sssss ttttt iiiiiiiiiiiiiiii",
        "SW      101011 sssss ttttt iiiiiiiiiiiiiiii", "SWR     101110 sssss ttttt iiiiiiiiiiiiiiii",
        "LL      110000 sssss ttttt iiiiiiiiiiiiiiii", "LWC1    110001 sssss ttttt iiiiiiiiiiiiiiii",
        "PREF    110011 sssss ttttt iiiiiiiiiiiiiiii", "LDC1    110101 sssss ttttt iiiiiiiiiiiiiiii",
        "SC      111000 sssss ttttt iiiiiiiiiiiiiiii", "SWC1    111001 sssss ttttt iiiiiiiiiiiiiiii",
        "SDC1    111101 sssss ttttt iiiiiiiiiiiiiiii",
        "MFC1    010001 00000 ttttt ddddd aaaaa xxxxxx", "MTC1    010001 00100 ttttt ddddd aaaaa xxxxxx",
        "BC1F    010001 01000 ccc00 iiiiiiiiiiiiiiii", "BC1T    010001 01000 ccc01 iiiiiiiiiiiiiiii",
        "BC1FL   010001 01000 ccc10 iiiiiiiiiiiiiiii", "BC1TL   010001 01000 ccc11 iiiiiiiiiiiiiiii",
        "FADD    010001 1000f ttttt ddddd aaaaa 000000", "FSUB    010001 1000f ttttt ddddd aaaaa 000001",
        "FMUL    010001 1000f ttttt ddddd aaaaa 000010", "FDIV    010001 1000f ttttt ddddd aaaaa 000011",
        "FSQRT   010001 1000f ttttt ddddd aaaaa 000100", "FABS    010001 1000f ttttt ddddd aaaaa 000101",
        "FMOV    010001 1000f ttttt ddddd aaaaa 000110", "FNEG    010001 1000f ttttt ddddd aaaaa 000111",
        "ROUND.W 010001 1000f ttttt ddddd aaaaa 001100", "TRUNC.W 010001 1000f ttttt ddddd aaaaa 001101",
        "CEIL.W  010001 1000f ttttt ddddd aaaaa 001110", "FLOOR.W 010001 1000f ttttt ddddd aaaaa 001111",
        "CVT.W   010001 1000f ttttt ddddd aaaaa 100100", "FMOVF   010001 1000f cccx0 ddddd aaaaa 010001",
        "FMOVT   010001 1000f cccx1 ddddd aaaaa 010001", "FMOVZ   010001 1000f ttttt ddddd aaaaa 010010",
        "FMOVN   010001 1000f ttttt ddddd aaaaa 010011", "C       010001 1000f ttttt ddddd cccxx 11kkkk",
        "CVT.S.D 010001 10001 ttttt ddddd aaaaa 100000", "CVT.S.W 010001 10100 ttttt ddddd aaaaa 100000",
        "CVT.D.S 010001 10000 ttttt ddddd aaaaa 100001", "CVT.D.W 010001 10100 ttttt ddddd aaaaa 100001",
    };

    static final long LOW = 0xFFFFFFFFL;

    private static final String[] NAMES = new String[TABLE.length];
    private static final int[] FIXED = new int[TABLE.length];
    private static final int[] BITS = new int[TABLE.length];

    static {
        for (int i = 0; i < TABLE.length; i++) {
            int blank = TABLE[i].indexOf(' ');
            String bits = TABLE[i].substring(blank).replace(" ", "");
            NAMES[i] = TABLE[i].substring(0, blank);
            FIXED[i] = Integer.parseUnsignedInt(bits.replace('0', '1').replaceAll("[a-z]", "0"), 2);
            BITS[i] = Integer.parseUnsignedInt(bits.replaceAll("[a-z]", "0"), 2);
        }
    }

    /** A step's end, thrown before anything is changed. */
    private static final class End extends RuntimeException {
        private static final long serialVersionUID = 1;
        final int kind;

        End(int kind) {
            super(null, null, false, false);
            this.kind = kind;
        }
    }

    final byte[] memory;
    final int[] registers = new int[32];
    final int[] fractions = new int[32];
    final boolean[] conditions = new boolean[8];
    Integer hi = 0;
    Integer lo = 0;
    Long link;
    long pc;
    long next = 4;
    boolean slot;
    int end;
    int code;
    final int[] counts = new int[8];

    // Where the step that is done leads to.
    private long newNext;
    private boolean newSlot;
    private boolean over;

    Model(int size) {
        int bytes = size < 1024 ? 1024 : size > 262144 ? 262144 : size;
        memory = new byte[bytes - bytes % 8];
    }

    static List<String> namesOf(int word) {
        List<String> names = new ArrayList<>();
        for (int i = 0; i < TABLE.length; i++) {
            if ((word & FIXED[i]) == BITS[i]) {
                names.add(NAMES[i]);
            }
        }
        return names;
    }

    /** The word with the bits that make it the instruction of this line of the table. */
    static int encode(int line, int word) {
        return word & ~FIXED[line] | BITS[line];
    }

    int put(int address, int word) {
        int before = word(address);
        store(address & LOW, 4, word);
        return before;
    }

    int word(int address) {
        if (!good(address & LOW, 4)) {
            throw new IllegalArgumentException();
        }
        return (int) load(address & LOW, 4);
    }

    int go(int address) {
        if (address % 4 != 0) {
            throw new IllegalArgumentException();
        }
        int before = (int) pc;
        pc = address & LOW;
        next = pc + 4 & LOW;
        slot = false;
        link = null;
        end = 0;
        return before;
    }

    int set(int which, int v) {
        Integer before = held(which);
        if (which == 32) {
            hi = v;
        } else if (which == 33) {
            lo = v;
        } else if (which < 32) {
            write(which, v);
        } else if (which < 66) {
            fractions[which - 34] = v;
        } else {
            for (int i = 0; i < 8; i++) {
                conditions[i] = (v >> i & 1) == 1;
            }
        }
        return before == null ? 0 : before;
    }

    int get(int which) {
        Integer v = held(which);
        if (v == null) {
            throw new IllegalStateException();
        }
        return v;
    }

    private Integer held(int which) {
        if (which < 0 || which > 66) {
            throw new IndexOutOfBoundsException();
        }
        if (which < 32) {
            return registers[which];
        }
        if (which < 34) {
            return which == 32 ? hi : lo;
        }
        if (which < 66) {
            return fractions[which - 34];
        }
        int all = 0;
        for (int i = 7; i >= 0; i--) {
            all = 2 * all + (conditions[i] ? 1 : 0);
        }
        return all;
    }

    int run(int n) {
        if (n < 1 || n > 10000) {
            throw new IllegalArgumentException();
        }
        if (end != 0) {
            throw new IllegalStateException();
        }
        int done = 0;
        while (done < n && end == 0) {
            try {
                step();
                done++;
            } catch (End e) {
                end = e.kind;
            }
        }
        return done;
    }

    int pass() {
        if (end != 6 && end != 7) {
            throw new IllegalStateException();
        }
        end = 0;
        newNext = next + 4;
        newSlot = false;
        over = false;
        moveOn();
        return code;
    }

    int state(int what) {
        switch (what) {
            case 0:
                return (int) pc;
            case 1:
                return (int) next;
            case 2:
                return slot ? 1 : 0;
            case 3: case 4: case 5: case 6: case 7:
                return counts[what];
            default:
                throw new IndexOutOfBoundsException();
        }
    }

    private void step() {
        if (!good(pc, 4)) {
            throw new End(1);
        }
        int word = (int) load(pc, 4);
        List<String> names = namesOf(word);
        if (names.isEmpty()) {
            throw new End(3);
        }
        newNext = next + 4;
        newSlot = false;
        over = false;
        perform(names.get(0), word);
        moveOn();
    }

    private void moveOn() {
        pc = next;
        next = newNext & LOW;
        if (over) {
            pc = next;
            next = pc + 4 & LOW;
            counts[7]++;
        }
        slot = newSlot;
        counts[3]++;
    }

    private void perform(String name, int word) {
        if (word >>> 26 == 0b010001 && (word >>> 25 & 1) == 1) {
            onFractions(name, word);
        } else if (word >>> 26 >= 0b100000) {
            access(name, word);
        } else if (name.matches("J|JAL|JR|JALR|B[ENLG].*|BC1.*")) {
            goElsewhere(name, word);
        } else if (name.matches("T.*")) {
            int b = name.contains("I") ? (short) word : registers[word >>> 16 & 31];
            trap(name.replace("I", ""), registers[word >>> 21 & 31], b);
        } else {
            compute(name, word);
        }
    }

    private void goElsewhere(String name, int word) {
        int rs = word >>> 21 & 31;
        int rd = word >>> 11 & 31;
        int a = registers[rs];
        int b = registers[word >>> 16 & 31];
        if (slot || name.equals("JALR") && rs == rd || name.matches("B(LT|GE)ZALL?") && rs == 31) {
            throw new End(8);
        }
        long behind = pc + 8 & LOW;
        if (name.startsWith("J")) {
            newNext = name.matches("JR|JALR") ? a & LOW : next / 0x10000000L * 0x10000000L + (word & 0x3FFFFFFL) * 4;
            if (name.equals("JAL")) {
                write(31, (int) behind);
            }
            if (name.equals("JALR")) {
                write(rd, (int) behind);
            }
            newSlot = true;
            counts[6]++;
            return;
        }
        boolean condition = conditions[word >>> 18 & 7];
        String kind = name.replaceFirst("ALL?$", "").replaceFirst("L$", "");
        boolean goes = kind.equals("BEQ") && a == b || kind.equals("BNE") && a != b
            || kind.equals("BLEZ") && a <= 0 || kind.equals("BGTZ") && a > 0
            || kind.equals("BLTZ") && a < 0 || kind.equals("BGEZ") && a >= 0
            || kind.equals("BC1F") && !condition || kind.equals("BC1T") && condition;
        boolean likely = name.endsWith("L") && !name.matches("BLTZAL|BGEZAL");
        if (name.matches("B(LT|GE)ZALL?")) {
            write(31, (int) behind);
        }
        if (goes) {
            newNext = next + 4L * (short) word;
            counts[6]++;
        }
        newSlot = goes || !likely;
        over = !goes && likely;
    }

    private static void trap(String kind, int a, int b) {
        boolean holds = kind.equals("TGE") && a >= b || kind.equals("TLT") && a < b
            || kind.equals("TGEU") && Integer.compareUnsigned(a, b) >= 0
            || kind.equals("TLTU") && Integer.compareUnsigned(a, b) < 0
            || kind.equals("TEQ") && a == b || kind.equals("TNE") && a != b;
        if (holds) {
            throw new End(5);
        }
    }

    private void compute(String name, int word) {
        int a = registers[word >>> 21 & 31];
        int b = registers[word >>> 16 & 31];
        int rt = word >>> 16 & 31;
        int rd = word >>> 11 & 31;
        int amount = word >>> 6 & 31;
        int immediate = word & 0xFFFF;
        int withSign = (short) word;
        switch (name) {
            case "SLL": write(rd, b << amount); break;
            case "SRL": write(rd, b >>> amount); break;
            case "SRA": write(rd, b >> amount); break;
            case "SLLV": write(rd, b << (a & 31)); break;
            case "SRLV": write(rd, b >>> (a & 31)); break;
            case "SRAV": write(rd, b >> (a & 31)); break;
            case "ADD": write(rd, exact((long) a + b)); break;
            case "ADDU": write(rd, a + b); break;
            case "SUB": write(rd, exact((long) a - b)); break;
            case "SUBU": write(rd, a - b); break;
            case "AND": write(rd, a & b); break;
            case "OR": write(rd, a | b); break;
            case "XOR": write(rd, a ^ b); break;
            case "NOR": write(rd, ~a & ~b); break;
            case "SLT": write(rd, a < b ? 1 : 0); break;
            case "SLTU": write(rd, Integer.compareUnsigned(a, b) < 0 ? 1 : 0); break;
            case "ADDI": write(rt, exact((long) a + withSign)); break;
            case "ADDIU": write(rt, a + withSign); break;
            case "SLTI": write(rt, a < withSign ? 1 : 0); break;
            case "SLTIU": write(rt, Integer.compareUnsigned(a, withSign) < 0 ? 1 : 0); break;
            case "ANDI": write(rt, a & immediate); break;
            case "ORI": write(rt, a | immediate); break;
            case "XORI": write(rt, a ^ immediate); break;
            case "LUI": write(rt, immediate * 65536); break;
            case "MOVZ": if (b == 0) write(rd, a); break;
            case "MOVN": if (b != 0) write(rd, a); break;
            case "MOVF": if (!conditions[word >>> 18 & 7]) write(rd, a); break;
            case "MOVT": if (conditions[word >>> 18 & 7]) write(rd, a); break;
            case "CLZ": write(rd, Integer.numberOfLeadingZeros(a)); break;
            case "CLO": write(rd, Integer.numberOfLeadingZeros(~a)); break;
            case "MFC1": write(rt, fractions[rd]); break;
            case "MTC1": fractions[rd] = b; break;
            case "SYNC": break;
            case "SYSCALL": code = (int) ((word & LOW) / 64 % (1 << 20)); throw new End(7);
            case "BREAK": code = (int) ((word & LOW) / 64 % (1 << 20)); throw new End(6);
            default: multiply(name, a, b, rd);
        }
    }

    private void multiply(String name, int a, int b, int rd) {
        long product = (long) a * b;
        long unsigned = (a & LOW) * (b & LOW);
        switch (name) {
            case "MULT": both(product); break;
            case "MULTU": both(unsigned); break;
            case "MADD": both(sum() + product); break;
            case "MADDU": both(sum() + unsigned); break;
            case "MSUB": both(sum() - product); break;
            case "MSUBU": both(sum() - unsigned); break;
            case "MUL": hi = null; lo = null; write(rd, (int) product); break;
            case "DIV":
                lo = b == 0 ? null : Integer.valueOf(b == -1 ? -a : a / b);
                hi = b == 0 ? null : Integer.valueOf(b == -1 ? 0 : a % b);
                break;
            case "DIVU":
                lo = b == 0 ? null : Integer.valueOf(Integer.divideUnsigned(a, b));
                hi = b == 0 ? null : Integer.valueOf(Integer.remainderUnsigned(a, b));
                break;
            case "MFHI": write(rd, known(hi)); break;
            case "MFLO": write(rd, known(lo)); break;
            case "MTHI": hi = a; break;
            case "MTLO": lo = a; break;
            default: throw new AssertionError(name);
        }
    }

    private void access(String name, int word) {
        int rs = word >>> 21 & 31;
        int rt = word >>> 16 & 31;
        long address = registers[rs] + (long) (short) word & LOW;
        if (name.equals("PREF")) {
            return;
        }
        if (name.equals("SC") && (link == null || link != address)) {
            throw new End(8);
        }
        if (name.matches("[LS]DC1") && rt % 2 == 1) {
            throw new End(8);
        }
        boolean stores = name.startsWith("S");
        int bytes = name.matches("LBU?|SB|.WL|.WR") ? 1 : name.matches("LHU?|SH") ? 2 : name.matches("[LS]DC1") ? 8 : 4;
        if (!good(address, bytes)) {
            throw new End(stores ? 2 : 1);
        }
        counts[stores ? 5 : 4]++;
        int place = (int) (address % 4);
        long start = address - place;
        switch (name) {
            case "LB": write(rt, (byte) load(address, 1)); break;
            case "LBU": write(rt, (int) load(address, 1)); break;
            case "LH": write(rt, (short) load(address, 2)); break;
            case "LHU": write(rt, (int) load(address, 2)); break;
            case "LW": write(rt, (int) load(address, 4)); break;
            case "LL": write(rt, (int) load(address, 4)); link = address; break;
            case "LWC1": fractions[rt] = (int) load(address, 4); break;
            case "LDC1": setDouble(rt, load(address, 8)); break;
            case "LWL":
                for (int i = place; i < 4; i++) {
                    writeByte(rt, i - place, load(start + i, 1));
                }
                break;
            case "LWR":
                for (int i = 0; i <= place; i++) {
                    writeByte(rt, 3 - place + i, load(start + i, 1));
                }
                break;
            case "SB": store(address, 1, registers[rt]); break;
            case "SH": store(address, 2, registers[rt]); break;
            case "SW": store(address, 4, registers[rt]); break;
            case "SC": store(address, 4, registers[rt]); write(rt, 1); link = null; break;
            case "SWC1": store(address, 4, fractions[rt]); break;
            case "SDC1": store(address, 8, getDouble(rt)); break;
            case "SWL":
                for (int i = place; i < 4; i++) {
                    store(start + i, 1, registers[rt] >> 8 * (3 - (i - place)));
                }
                break;
            case "SWR":
                for (int i = 0; i <= place; i++) {
                    store(start + i, 1, registers[rt] >> 8 * (place - i));
                }
                break;
            default: throw new AssertionError(name);
        }
    }

    private void onFractions(String name, int word) {
        int ft = word >>> 16 & 31;
        int fs = word >>> 11 & 31;
        int fd = word >>> 6 & 31;
        boolean fromWord = name.matches("CVT.[SD].W");
        boolean toWord = name.matches("[A-Z]+[.]W");
        boolean two = name.matches("FADD|FSUB|FMUL|FDIV|C");
        boolean wide = (word >>> 21 & 31) == 0b10001;
        boolean targetWide = name.startsWith("CVT.D") || wide && !toWord && !name.matches("C|CVT.S.D");
        if (wide && (fs % 2 == 1 || two && ft % 2 == 1) || targetWide && fd % 2 == 1) {
            throw new End(8);
        }
        if (name.startsWith("FMOV")) {
            move(name, word, wide);
            return;
        }
        double a = fromWord ? fractions[fs] : value(fs, wide);
        double b = two ? value(ft, wide) : 0;
        if (name.equals("C")) {
            boolean without = a != a || b != b;
            conditions[word >>> 8 & 7] =
                without && (word & 1) != 0 || a == b && (word & 2) != 0 || a < b && (word & 4) != 0;
        } else if (toWord) {
            fractions[fd] = toWord(name, a);
        } else if (targetWide) {
            setDouble(fd, bits(result(name, a, b)));
        } else {
            fractions[fd] = bits(wide || fromWord ? (float) a : result(name, (float) a, (float) b));
        }
    }

    private void move(String name, int word, boolean wide) {
        int ft = word >>> 16 & 31;
        int fs = word >>> 11 & 31;
        int fd = word >>> 6 & 31;
        boolean condition = conditions[word >>> 18 & 7];
        boolean moves = name.equals("FMOV") || name.equals("FMOVF") && !condition
            || name.equals("FMOVT") && condition || name.equals("FMOVZ") && registers[ft] == 0
            || name.equals("FMOVN") && registers[ft] != 0;
        if (moves && wide) {
            setDouble(fd, getDouble(fs));
        } else if (moves) {
            fractions[fd] = fractions[fs];
        }
    }

    private double value(int register, boolean wide) {
        return wide ? Double.longBitsToDouble(getDouble(register)) : Float.intBitsToFloat(fractions[register]);
    }

    private static int toWord(String name, double a) {
        double whole;
        switch (name) {
            case "TRUNC.W": whole = a < 0 ? Math.ceil(a) : Math.floor(a); break;
            case "CEIL.W": whole = Math.ceil(a); break;
            case "FLOOR.W": whole = Math.floor(a); break;
            default: whole = Math.rint(a);
        }
        return whole >= -2147483648.0 && whole <= 2147483647.0 ? (int) whole : 0x7FFFFFFF;
    }

    private static double result(String name, double a, double b) {
        switch (name) {
            case "FADD": return a + b;
            case "FSUB": return a - b;
            case "FMUL": return a * b;
            case "FDIV": return a / b;
            case "FSQRT": return Math.sqrt(a);
            case "FABS": return Math.abs(a);
            case "FNEG": return -a;
            case "CVT.D.S": case "CVT.D.W": return a;
            default: throw new AssertionError(name);
        }
    }

    private static float result(String name, float a, float b) {
        switch (name) {
            case "FADD": return a + b;
            case "FSUB": return a - b;
            case "FMUL": return a * b;
            case "FDIV": return a / b;
            default: return (float) result(name, (double) a, 0.0);
        }
    }

    private static int bits(float v) {
        return v != v ? 0x7FBFFFFF : Float.floatToRawIntBits(v);
    }

    private static long bits(double v) {
        return v != v ? 0x7FF7FFFFFFFFFFFFL : Double.doubleToRawLongBits(v);
    }

    private boolean good(long address, int bytes) {
        return address % bytes == 0 && address + bytes <= memory.length;
    }

    private long load(long address, int bytes) {
        long all = 0;
        for (int i = 0; i < bytes; i++) {
            all = all << 8 | memory[(int) address + i] & 255;
        }
        return all;
    }

    private void store(long address, int bytes, long v) {
        for (int i = bytes - 1; i >= 0; i--) {
            memory[(int) address + i] = (byte) v;
            v >>= 8;
        }
    }

    private void write(int register, int v) {
        registers[register] = v;
        registers[0] = 0;
    }

    /** Byte 0 is the highest. */
    private void writeByte(int register, int place, long v) {
        int shift = 8 * (3 - place);
        write(register, registers[register] & ~(255 << shift) | (int) v << shift);
    }

    private static int exact(long v) {
        if (v < Integer.MIN_VALUE || v > Integer.MAX_VALUE) {
            throw new End(4);
        }
        return (int) v;
    }

    private static int known(Integer v) {
        if (v == null) {
            throw new End(8);
        }
        return v;
    }

    private long sum() {
        return (long) known(hi) << 32 | known(lo) & LOW;
    }

    private void both(long v) {
        hi = (int) (v >> 32);
        lo = (int) v;
    }

    private long getDouble(int even) {
        return (long) fractions[even + 1] << 32 | fractions[even] & LOW;
    }

    private void setDouble(int even, long v) {
        fractions[even] = (int) v;
        fractions[even + 1] = (int) (v >>> 32);
    }
}
