/** Terms, memory and good addresses: a method for each sentence, with its words in its remark. */
public final class MemoryTermsTest {
    private static final Check CHECK = new Check("MemoryTermsTest");
    private static final String TERMS = "Terms, MEMORY";
    /** The least and the most, and two whose last double does not lie at a multiple of 16. */
    private static final int[] SIZES = {1024, 1032, 5000, 262_144};

    private static final int[] BYTE_LOADS = {Asm.LB, Asm.LBU, Asm.LWL, Asm.LWR};
    private static final int[] BYTE_STORES = {Asm.SB, Asm.SWL, Asm.SWR};
    private static final int[] HALF_LOADS = {Asm.LH, Asm.LHU};
    private static final int[] HALF_STORES = {Asm.SH};
    private static final int[] WORD_LOADS = {Asm.LW, Asm.LL, Asm.LWC1};
    private static final int[] WORD_STORES = {Asm.SW, Asm.SWC1};
    private static final int[] DOUBLE_LOADS = {Asm.LDC1};
    private static final int[] DOUBLE_STORES = {Asm.SDC1};

    public static void main(String[] args) {
        zeroAtFirst();
        bytesFromZeroOn();
        highestByteFirst();
        addressesWithoutSign();
        goodHalvesWordsDoubles();
        goodBytes();
        CHECK.close();
    }

    /** "MEMORY has SIZE bytes, 0 at first": of the least by word, of the most by a program that joins all. */
    private static void zeroAtFirst() {
        CHECK.sentence(TERMS, "MEMORY has SIZE bytes, 0 at first");
        DelayCore least = new DelayCore(0);
        for (int address = 0; address < 1024; address += 4) {
            CHECK.due("word " + address, least.word(address), 0);
        }
        DelayCore most = new DelayCore(262_144);
        int[] program = {Asm.lw(2, 1, 0), Asm.special(37, 3, 2, 3, 0), Asm.addiu(1, 1, 4), Asm.bne(1, 4, -4), Asm.NOP,
            Asm.breakWith(0)};
        for (int i = 0; i < program.length; i++) {
            most.put(4 * i, program[i]);
        }
        most.set(1, 4 * program.length);
        most.set(4, 262_144);
        for (int i = 0; i < 40 && most.end() == 0; i++) {
            most.run(10_000);
        }
        CHECK.due("it came to the BREAK", most.end(), 6);
        CHECK.due("loads", most.state(4), 65_536 - program.length);
        CHECK.due("all words together", most.get(3), 0);
    }

    /** "at the addresses 0, 1, ..": the first and the last byte are there, none below and none behind. */
    private static void bytesFromZeroOn() {
        CHECK.sentence(TERMS, "MEMORY has SIZE bytes, 0 at first, at the addresses 0, 1, ..");
        for (int size : SIZES) {
            for (int address : new int[] {0, 1, 2, 3, size - 2, size - 1}) {
                DelayCore core = at(size, Asm.SB, address);
                CHECK.due(size + " bytes, SB at " + address, core.run(1), 1);
                CHECK.due("the byte alone", core.word(address & -4), 0xFF << 24 - 8 * (address & 3));
            }
            for (int address : new int[] {-1, size, size + 1}) {
                DelayCore core = at(size, Asm.SB, address);
                CHECK.due(size + " bytes, SB at " + address, core.run(1), 0);
                CHECK.due("its end", core.end(), 2);
            }
        }
    }

    /** "halves and words have the highest byte first". */
    private static void highestByteFirst() {
        CHECK.sentence(TERMS, "halves and words have the highest byte first");
        Rig read = new Rig(Asm.access(Asm.LBU, 1, 0, 512), Asm.access(Asm.LBU, 2, 0, 513),
            Asm.access(Asm.LBU, 3, 0, 514), Asm.access(Asm.LBU, 4, 0, 515), Asm.access(Asm.LHU, 5, 0, 512),
            Asm.access(Asm.LHU, 6, 0, 514)).code(512, 0x81A2C3E4);
        CHECK.due("loads", read.core.run(6), 6);
        int[] due = {0x81, 0xA2, 0xC3, 0xE4, 0x81A2, 0xC3E4};
        for (int i = 0; i < due.length; i++) {
            CHECK.due("load " + i, read.core.get(1 + i), due[i]);
        }
        Rig written = new Rig(Asm.access(Asm.SB, 1, 0, 512), Asm.access(Asm.SB, 1, 0, 515),
            Asm.access(Asm.SH, 1, 0, 518), Asm.access(Asm.SH, 1, 0, 520), Asm.sw(1, 0, 524)).with(1, 0x81A2C3E4);
        CHECK.due("stores", written.core.run(5), 5);
        CHECK.due("first and last byte", written.core.word(512), 0xE40000E4);
        CHECK.due("the lower half", written.core.word(516), 0x0000C3E4);
        CHECK.due("the upper half", written.core.word(520), 0xC3E40000);
        CHECK.due("a word", written.core.word(524), 0x81A2C3E4);
    }

    /** "Addresses have 32 bits without sign.": they go round, and the upper half lies behind memory. */
    private static void addressesWithoutSign() {
        CHECK.sentence(TERMS, "Addresses have 32 bits without sign.");
        Rig round = new Rig(Asm.lw(2, 1, 0x7FFC)).with(1, 0xFFFF8204).code(512, 77);
        CHECK.due("a sum beyond 2^32", round.core.run(1), 1);
        CHECK.due("goes round", round.core.get(2), 77);
        Rig down = new Rig(Asm.lw(2, 1, -8)).with(1, 520).code(512, 77);
        CHECK.due("an offset below 0", down.core.run(1), 1);
        CHECK.due("goes down", down.core.get(2), 77);
        int[][] bad = {{4, -8}, {0, -0x8000}, {0x7FFFFFFF, 1}, {0x80000000, 0}, {0x80000200, 0}, {-4, 0}, {-512, 0},
            {0xFFFF8000, 0x7FFC}};
        for (int[] one : bad) {
            CHECK.due("LW at " + one[0] + " and " + one[1], new Rig(Asm.lw(2, 1, one[1])).with(1, one[0]).endAfter(1),
                1);
            CHECK.due("SW at " + one[0] + " and " + one[1], new Rig(Asm.sw(2, 1, one[1])).with(1, one[0]).endAfter(1),
                2);
        }
        DelayCore core = new DelayCore(262_144);
        for (int address : new int[] {0x80000000, 0x80000004, -262_144, -4}) {
            CHECK.throwing("word " + address, IllegalArgumentException.class, () -> core.word(address));
            core.go(address);
            CHECK.due("step at " + address, core.run(1), 0);
            CHECK.due("its end", core.end(), 1);
        }
    }

    /** "One of a half, word or double is GOOD, if it is a multiple of 2, 4, 8 and all its bytes are memory's". */
    private static void goodHalvesWordsDoubles() {
        CHECK.sentence(TERMS, "One of a half, word or double is GOOD, if it is a multiple of 2, 4, 8 and all its bytes"
            + " are memory's");
        for (int size : SIZES) {
            all(size, HALF_LOADS, HALF_STORES, new int[] {0, 2, 6, size - 4, size - 2},
                new int[] {1, 3, 7, size - 3, size - 1, size, size + 2, -1, -2});
            all(size, WORD_LOADS, WORD_STORES, new int[] {0, 4, 12, size - 8, size - 4},
                new int[] {1, 2, 3, 6, size - 6, size - 3, size - 2, size - 1, size, size + 4, -2, -4});
            all(size, DOUBLE_LOADS, DOUBLE_STORES, new int[] {0, 8, 24, size - 16, size - 8},
                new int[] {1, 2, 4, 12, size - 12, size - 7, size - 4, size - 2, size - 1, size, size + 8, -4, -8});
        }
    }

    /** "of a byte, if that is". */
    private static void goodBytes() {
        CHECK.sentence(TERMS, "of a byte, if that is");
        for (int size : SIZES) {
            all(size, BYTE_LOADS, BYTE_STORES, new int[] {0, 1, 2, 3, size - 4, size - 3, size - 2, size - 1},
                new int[] {size, size + 1, size + 3, -1, -4, 0x80000000});
        }
    }

    private static void all(int size, int[] loads, int[] stores, int[] good, int[] bad) {
        for (int opcode : loads) {
            ends(size, opcode, good, 0);
            ends(size, opcode, bad, 1);
        }
        for (int opcode : stores) {
            ends(size, opcode, good, 0);
            ends(size, opcode, bad, 2);
        }
    }

    private static void ends(int size, int opcode, int[] addresses, int due) {
        for (int address : addresses) {
            DelayCore core = at(size, opcode, address);
            CHECK.due(size + " bytes, opcode " + opcode + " at " + address + ": steps", core.run(1), due == 0 ? 1 : 0);
            CHECK.due(size + " bytes, opcode " + opcode + " at " + address + ": end", core.end(), due);
        }
    }

    /** The instruction lies in the middle, where none of the addresses asked for is. */
    private static DelayCore at(int size, int opcode, int address) {
        DelayCore core = new DelayCore(size);
        core.put(512, Asm.access(opcode, 2, 1, 0));
        core.go(512);
        core.set(1, address);
        core.set(2, -1);
        return core;
    }
}
