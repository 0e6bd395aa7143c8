/** Terms, registers, HI and LO, fractions, conditions: a method for each sentence, with its words in its remark. */
public final class RegisterTermsTest {
    private static final Check CHECK = new Check("RegisterTermsTest");
    private static final String TERMS = "Terms, REGISTERS";

    public static void main(String[] args) {
        registers();
        hiAndLo();
        fractions();
        doubles();
        conditions();
        atFirst();
        CHECK.close();
    }

    /** "REGISTERS 0 .. 31 of 32 bits; 0 is always 0.": the first, the last, and their highest bits. */
    private static void registers() {
        CHECK.sentence(TERMS, "REGISTERS 0 .. 31 of 32 bits; 0 is always 0.");
        Rig rig = new Rig(Asm.special(33, 31, 1, 30, 0), Asm.special(33, 31, 31, 0, 0), Asm.special(33, 0, 0, 29, 0))
            .with(0, -1).with(31, 0x80000000).with(1, 0x7FFFFFFF).with(29, 5);
        CHECK.due("0 was set", rig.core.get(0), 0);
        CHECK.due("steps", rig.core.run(3), 3);
        CHECK.due("32 bits", rig.core.get(30), -1);
        CHECK.due("0 was written", rig.core.get(0), 0);
        CHECK.due("0 was read", rig.core.get(29), 0);
        CHECK.due("31 stays", rig.core.get(31), 0x80000000);
        CHECK.due("set of 0 answers 0", rig.core.set(0, 9), 0);
        CHECK.due("and again", rig.core.set(0, 9), 0);
    }

    /** "HI and LO, each perhaps UNKNOWN.": both, HI alone, LO alone, none; moving to one leaves the other. */
    private static void hiAndLo() {
        CHECK.sentence(TERMS, "HI and LO, each perhaps UNKNOWN.");
        int[][] makers = {{Asm.mthi(1), Rig.HI, Rig.LO}, {Asm.mtlo(1), Rig.LO, Rig.HI}};
        for (int[] maker : makers) {
            Rig rig = new Rig(Asm.divu(1, 0), maker[0]).with(1, 6).behind(1);
            CHECK.throwing("HI", IllegalStateException.class, () -> rig.core.get(Rig.HI));
            CHECK.throwing("LO", IllegalStateException.class, () -> rig.core.get(Rig.LO));
            rig.core.run(1);
            CHECK.due("one is known", rig.core.get(maker[1]), 6);
            CHECK.throwing("the other is not", IllegalStateException.class, () -> rig.core.get(maker[2]));
            rig.core.set(maker[2], 7);
            CHECK.due("the other is, too", rig.core.get(maker[2]), 7);
            CHECK.due("the one stays", rig.core.get(maker[1]), 6);
            Rig known = new Rig(Asm.special(24, 1, 1, 0, 0), maker[0], Asm.mfhi(2), Asm.mflo(3)).with(1, 0x10001);
            CHECK.due("behind MULT, each is moved alone", known.core.run(4), 4);
            CHECK.due("the one is moved", known.core.get(maker[1]), 0x10001);
            CHECK.due("the other one is the product's", known.core.get(maker[2]), maker[2] == Rig.HI ? 1 : 0x20001);
            CHECK.due("HI is asked", known.core.get(2), known.core.get(Rig.HI));
            CHECK.due("LO is asked", known.core.get(3), known.core.get(Rig.LO));
        }
    }

    /** "FRACTIONS: 32 registers of 32 bits": the first and the last, with every bit. */
    private static void fractions() {
        CHECK.sentence(TERMS, "FRACTIONS: 32 registers of 32 bits");
        for (int fraction : new int[] {0, 1, 30, 31}) {
            Rig rig = new Rig(Asm.access(Asm.LWC1, fraction, 0, 512), Asm.access(Asm.SWC1, fraction, 0, 516))
                .code(512, 0xFFC1A2B3);
            CHECK.due("load and store", rig.core.run(2), 2);
            CHECK.due("fraction " + fraction, rig.core.get(Rig.FRACTION + fraction), 0xFFC1A2B3);
            CHECK.due("stored", rig.core.word(516), 0xFFC1A2B3);
            for (int other = 0; other < 32; other++) {
                if (other != fraction) {
                    CHECK.due("fraction " + other + " stays", rig.core.get(Rig.FRACTION + other), 0);
                }
            }
        }
    }

    /** "a double is in an even one (its low word) and the next one (its high word)": in 0, 2, 28 and 30. */
    private static void doubles() {
        CHECK.sentence(TERMS, "a double is in an even one (its low word) and the next one (its high word)");
        for (int even : new int[] {0, 2, 28, 30}) {
            Rig third = new Rig(Asm.fraction(3, Asm.D, even, 4, 6))
                .withDouble(4, 0x3FF0000000000000L).withDouble(6, 0x4008000000000000L);
            CHECK.due("DIV.D", third.core.run(1), 1);
            CHECK.due("low word", third.core.get(Rig.FRACTION + even), 0x55555555);
            CHECK.due("high word", third.core.get(Rig.FRACTION + even + 1), 0x3FD55555);
            Rig loaded = new Rig(Asm.access(Asm.LDC1, even, 0, 512), Asm.access(Asm.SDC1, even, 0, 528))
                .code(512, 0x01020304, 0x05060708);
            CHECK.due("LDC1 and SDC1", loaded.core.run(2), 2);
            CHECK.due("low word loaded", loaded.core.get(Rig.FRACTION + even), 0x05060708);
            CHECK.due("high word loaded", loaded.core.get(Rig.FRACTION + even + 1), 0x01020304);
            CHECK.due("high word stored first", loaded.core.word(528), 0x01020304);
            CHECK.due("low word stored behind it", loaded.core.word(532), 0x05060708);
        }
    }

    /** "CONDITIONS 0 .. 7.": the lowest and the highest are written and asked by C, BC1T, MOVT and MOVT.S. */
    private static void conditions() {
        CHECK.sentence(TERMS, "CONDITIONS 0 .. 7.");
        for (int cc : new int[] {0, 7}) {
            Rig rig = new Rig(Asm.compare(2, Asm.S, cc, 1, 1), Asm.special(1, 9, cc << 2 | 1, 10, 0),
                Asm.fraction(17, Asm.S, 4, 2, cc << 2 | 1), Asm.bc1(true, false, cc, 4), Asm.NOP)
                .with(9, 8).with(Rig.FRACTION + 2, 6);
            CHECK.due("steps", rig.core.run(4), 4);
            CHECK.due("condition " + cc, rig.core.get(Rig.CONDITIONS), 1 << cc);
            CHECK.due("MOVT", rig.core.get(10), 8);
            CHECK.due("MOVT.S", rig.core.get(Rig.FRACTION + 4), 6);
            CHECK.due("BC1T", rig.core.state(1), 32);
            Rig other = new Rig(Asm.bc1(true, false, cc, 4)).with(Rig.CONDITIONS, 255 ^ 1 << cc);
            CHECK.due("no other one is asked", other.core.run(1) + other.core.state(6), 1);
        }
    }

    /** "All is 0 at first, but NEXT 4.": whatever the size. */
    private static void atFirst() {
        CHECK.sentence(TERMS, "All is 0 at first, but NEXT 4.");
        for (int size : new int[] {Integer.MIN_VALUE, 0, 1024, 262_144, Integer.MAX_VALUE}) {
            DelayCore core = new DelayCore(size);
            for (int i = 0; i <= Rig.CONDITIONS; i++) {
                CHECK.due("get " + i, core.get(i), 0);
            }
            for (int i = 0; i < 8; i++) {
                CHECK.due("state " + i, core.state(i), i == 1 ? 4 : 0);
            }
            CHECK.due("end", core.end(), 0);
        }
    }
}
