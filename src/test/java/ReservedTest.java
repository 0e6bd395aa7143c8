import java.util.BitSet;

/** Terms, "All other words are RESERVED.": all fields that say which instruction it is are gone through. */
public final class ReservedTest {
    private static final Check CHECK = new Check("ReservedTest");

    public static void main(String[] args) {
        CHECK.sentence("Terms, INSTRUCTIONS", "All other words are RESERVED.");
        opcodes();
        functions(0, set(0, 1, 2, 3, 4, 6, 7, 8, 9, 10, 11, 12, 13, 15, 16, 17, 18, 19, 24, 25, 26, 27,
            32, 33, 34, 35, 36, 37, 38, 39, 42, 43, 48, 49, 50, 51, 52, 54), "SPECIAL");
        functions(28 << 26, set(0, 1, 2, 4, 5, 32, 33), "SPECIAL2");
        regimm();
        coprocessor();
        formats();
        CHECK.close();
    }

    private static BitSet set(int... members) {
        BitSet all = new BitSet();
        for (int member : members) {
            all.set(member);
        }
        return all;
    }

    /** Other fields are tried with zeros, ones and a pattern; registers point at good addresses. */
    private static void asked(String what, int word, boolean known) {
        Rig rig = new Rig(word);
        for (int i = 1; i < 32; i++) {
            rig.with(i, 512);
        }
        rig.core.run(1);
        CHECK.due(what + " " + Integer.toHexString(word) + " is reserved", rig.core.end() == 3 ? 1 : 0, known ? 0 : 1);
    }

    private static void opcodes() {
        BitSet known = set(2, 3, 4, 5, 6, 7, 8, 9, 10, 11, 12, 13, 14, 15, 20, 21, 22, 23, 32, 33, 34, 35, 36, 37, 38,
            40, 41, 42, 43, 46, 48, 49, 51, 53, 56, 57, 61);
        for (int opcode = 2; opcode < 64; opcode++) {
            if (opcode == 17 || opcode == 28) {
                continue;
            }
            for (int rest : new int[] {0, 0x03FFFFFF, 0x01554AA8, 0x02AA1550}) {
                asked("opcode " + opcode, opcode << 26 | rest, known.get(opcode));
            }
        }
    }

    private static void functions(int base, BitSet known, String name) {
        for (int function = 0; function < 64; function++) {
            for (int rest : new int[] {0, 0x03FFFFC0, 0x01554A80, 0x02AA1540}) {
                asked(name + " " + function, base | rest | function, known.get(function));
            }
        }
    }

    private static void regimm() {
        BitSet known = set(0, 1, 2, 3, 8, 9, 10, 11, 12, 14, 16, 17, 18, 19);
        for (int kind = 0; kind < 32; kind++) {
            for (int rest : new int[] {0, 0x03E0FFFF, 0x01401234}) {
                asked("REGIMM " + kind, 1 << 26 | kind << 16 | rest, known.get(kind));
            }
        }
    }

    private static void coprocessor() {
        BitSet known = set(0, 4, 8);
        for (int kind = 0; kind < 32; kind++) {
            if (kind == Asm.S || kind == Asm.D || kind == Asm.W) {
                continue;
            }
            for (int rest : new int[] {0, 0x001FFFFF, 0x00154AA8, 0x000A1550}) {
                asked("COP1 " + kind, 17 << 26 | kind << 21 | rest, known.get(kind));
            }
        }
    }

    private static void formats() {
        BitSet both = set(0, 1, 2, 3, 4, 5, 6, 7, 12, 13, 14, 15, 17, 18, 19, 36);
        both.set(48, 64);
        for (int function = 0; function < 64; function++) {
            for (int rest : new int[] {0, 0x001FFFC0, 0x00154A80, 0x000A1540}) {
                int word = 17 << 26 | rest | function;
                asked("S", word | Asm.S << 21, both.get(function) || function == 33);
                asked("D", word | Asm.D << 21, both.get(function) || function == 32);
                asked("W", word | Asm.W << 21, function == 32 || function == 33);
            }
        }
    }
}
