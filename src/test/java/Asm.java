/** Encodings by the manual's fields, written apart from the program's own numbers. */
final class Asm {
    static final int NOP = 0;
    static final int S = 16;
    static final int D = 17;
    static final int W = 20;
    static final int LB = 0b100000, LH = 0b100001, LWL = 0b100010, LW = 0b100011;
    static final int LBU = 0b100100, LHU = 0b100101, LWR = 0b100110;
    static final int SB = 0b101000, SH = 0b101001, SWL = 0b101010, SW = 0b101011, SWR = 0b101110;
    static final int LL = 0b110000, LWC1 = 0b110001, PREF = 0b110011, LDC1 = 0b110101;
    static final int SC = 0b111000, SWC1 = 0b111001, SDC1 = 0b111101;

    private Asm() {
    }

    static int special(int function, int rs, int rt, int rd, int sa) {
        return rs << 21 | rt << 16 | rd << 11 | sa << 6 | function;
    }

    static int special2(int function, int rs, int rt, int rd) {
        return 0b011100 << 26 | rs << 21 | rt << 16 | rd << 11 | function;
    }

    static int regimm(int kind, int rs, int immediate) {
        return 1 << 26 | rs << 21 | kind << 16 | immediate & 0xFFFF;
    }

    static int immediate(int opcode, int rs, int rt, int immediate) {
        return opcode << 26 | rs << 21 | rt << 16 | immediate & 0xFFFF;
    }

    /** A load or store. */
    static int access(int opcode, int rt, int base, int offset) {
        return immediate(opcode, base, rt, offset);
    }

    static int fraction(int function, int format, int fd, int fs, int ft) {
        return 0b010001 << 26 | format << 21 | ft << 16 | fs << 11 | fd << 6 | function;
    }

    static int compare(int condition, int format, int cc, int fs, int ft) {
        return fraction(0b110000 | condition, format, cc << 2, fs, ft);
    }

    static int addiu(int rt, int rs, int v) {
        return immediate(0b001001, rs, rt, v);
    }

    static int lw(int rt, int base, int offset) {
        return immediate(0b100011, base, rt, offset);
    }

    static int sw(int rt, int base, int offset) {
        return immediate(0b101011, base, rt, offset);
    }

    static int ll(int rt, int base, int offset) {
        return immediate(0b110000, base, rt, offset);
    }

    static int sc(int rt, int base, int offset) {
        return immediate(0b111000, base, rt, offset);
    }

    static int beq(int rs, int rt, int offset) {
        return immediate(0b000100, rs, rt, offset);
    }

    static int bne(int rs, int rt, int offset) {
        return immediate(0b000101, rs, rt, offset);
    }

    static int bnel(int rs, int rt, int offset) {
        return immediate(0b010101, rs, rt, offset);
    }

    static int j(int target) {
        return 0b000010 << 26 | target >>> 2;
    }

    static int jal(int target) {
        return 0b000011 << 26 | target >>> 2;
    }

    static int jr(int rs) {
        return special(0b001000, rs, 0, 0, 0);
    }

    static int jalr(int rd, int rs) {
        return special(0b001001, rs, 0, rd, 0);
    }

    static int syscall(int code) {
        return code << 6 | 0b001100;
    }

    static int breakWith(int code) {
        return code << 6 | 0b001101;
    }

    static int divu(int rs, int rt) {
        return special(0b011011, rs, rt, 0, 0);
    }

    static int mul(int rd, int rs, int rt) {
        return special2(0b000010, rs, rt, rd);
    }

    static int mfhi(int rd) {
        return special(0b010000, 0, 0, rd, 0);
    }

    static int mflo(int rd) {
        return special(0b010010, 0, 0, rd, 0);
    }

    static int mthi(int rs) {
        return special(0b010001, rs, 0, 0, 0);
    }

    static int mtlo(int rs) {
        return special(0b010011, rs, 0, 0, 0);
    }

    static int bc1(boolean asked, boolean likely, int cc, int offset) {
        return 0b010001 << 26 | 8 << 21 | cc << 18 | (likely ? 1 << 17 : 0) | (asked ? 1 << 16 : 0)
            | offset & 0xFFFF;
    }
}
