/** Terms, branches, jumps, slots and likely ones: the lists of the document, gone through. */
public final class BranchTest {
    private static final Check CHECK = new Check("BranchTest");
    private static final String TERMS = "Terms, INSTRUCTIONS";
    private static final int[] VALUES = {0, 1, -1, Integer.MAX_VALUE, Integer.MIN_VALUE};

    public static void main(String[] args) {
        CHECK.sentence(TERMS, "BEQ BNE BLEZ BGTZ BLTZ BGEZ BLTZAL BGEZAL and all eight with L behind (likely)");
        for (int a : VALUES) {
            for (int b : VALUES) {
                registers(4, a, b, a == b);
                registers(5, a, b, a != b);
            }
            registers(6, a, 0, a <= 0);
            registers(7, a, 0, a > 0);
            for (int kind = 0; kind < 2; kind++) {
                boolean goes = kind == 0 ? a < 0 : a >= 0;
                branch(Asm.regimm(kind, 1, 5), a, 0, goes, false, false);
                branch(Asm.regimm(kind + 2, 1, 5), a, 0, goes, true, false);
                branch(Asm.regimm(kind + 16, 1, 5), a, 0, goes, false, true);
                branch(Asm.regimm(kind + 18, 1, 5), a, 0, goes, true, true);
            }
        }
        conditions();
        backwards();
        jumps();
        CHECK.close();
    }

    private static void registers(int opcode, int a, int b, boolean goes) {
        branch(Asm.immediate(opcode, 1, 2, 5), a, b, goes, false, false);
        branch(Asm.immediate(opcode + 16, 1, 2, 5), a, b, goes, true, false);
    }

    /** At 16, to 40; the slot and what follows it write marks. */
    private static void branch(int word, int a, int b, boolean goes, boolean likely, boolean links) {
        Rig rig = new Rig(0, 0, 0, 0, word, Asm.addiu(5, 5, 1), Asm.addiu(6, 6, 1)).with(1, a).with(2, b);
        follow(rig, Integer.toHexString(word) + " of " + a + ", " + b, goes, likely);
        CHECK.due("link", rig.core.get(31), links ? 24 : 0);
    }

    private static void follow(Rig rig, String what, boolean goes, boolean likely) {
        rig.core.go(16);
        boolean passed = likely && !goes;
        CHECK.due(what + ": run", rig.core.run(1), 1);
        CHECK.due(what + ": PC", rig.core.state(0), passed ? 24 : 20);
        CHECK.due(what + ": NEXT", rig.core.state(1), goes ? 40 : passed ? 28 : 24);
        CHECK.due(what + ": slot", rig.core.state(2), passed ? 0 : 1);
        CHECK.due(what + ": gone", rig.core.state(6), goes ? 1 : 0);
        CHECK.due(what + ": passed over", rig.core.state(7), passed ? 1 : 0);
        CHECK.due(what + ": steps", rig.core.state(3), 1);
        rig.core.run(1);
        CHECK.due(what + ": slot done", rig.core.get(5), passed ? 0 : 1);
        CHECK.due(what + ": PC then", rig.core.state(0), goes ? 40 : passed ? 28 : 24);
        CHECK.due(what + ": NEXT then", rig.core.state(1), goes ? 44 : passed ? 32 : 28);
        CHECK.due(what + ": no slot then", rig.core.state(2), 0);
    }

    private static void conditions() {
        CHECK.sentence(TERMS, "BC1F BC1T BC1FL BC1TL");
        for (int cc = 0; cc < 8; cc++) {
            for (int held : new int[] {0, 255, 1 << cc, 255 ^ 1 << cc}) {
                boolean holds = (held >> cc & 1) != 0;
                for (int k = 0; k < 4; k++) {
                    boolean asked = (k & 1) != 0;
                    boolean likely = (k & 2) != 0;
                    int word = Asm.bc1(asked, likely, cc, 5);
                    Rig rig = new Rig(0, 0, 0, 0, word, Asm.addiu(5, 5, 1)).with(Rig.CONDITIONS, held);
                    follow(rig, "BC1 " + k + " of " + held, holds == asked, likely);
                }
            }
        }
    }

    private static void backwards() {
        CHECK.sentence("Terms, STEP",
            "PC is the address of the instruction that comes, NEXT that of the one behind it.");
        Rig rig = new Rig(Asm.addiu(1, 0, 10), Asm.addiu(2, 2, 3), Asm.addiu(1, 1, -1), Asm.bne(1, 0, -3),
            Asm.addiu(3, 3, 1), Asm.breakWith(0));
        CHECK.due("loop", rig.core.run(10_000), 41);
        CHECK.due("body", rig.core.get(2), 30);
        CHECK.due("slots", rig.core.get(3), 10);
        CHECK.due("gone", rig.core.state(6), 9);
        Rig below = new Rig(Asm.beq(0, 0, -0x8000), Asm.NOP);
        below.core.run(2);
        CHECK.due("below 0", below.core.state(0), 4 - 0x20000);
        CHECK.due("not in memory", below.endAfter(1), 1);
        Rig far = new Rig(Asm.beq(0, 0, 0x7FFF), Asm.NOP);
        far.core.run(2);
        CHECK.due("far above", far.core.state(0), 4 + 0x1FFFC);
        Rig itself = new Rig(Asm.beq(0, 0, -1), Asm.NOP);
        CHECK.due("a branch to itself", itself.core.run(10_000), 10_000);
        CHECK.due("its goings", itself.core.state(6), 5_000);
    }

    private static void jumps() {
        CHECK.sentence(TERMS, "J JAL JR JALR");
        Rig j = new Rig(Asm.j(0x0FFFFFFC), Asm.addiu(5, 5, 1)).with(31, 3);
        j.core.run(2);
        CHECK.due("J", j.core.state(0), 0x0FFFFFFC);
        CHECK.due("J does not link", j.core.get(31), 3);
        CHECK.due("its slot", j.core.get(5), 1);
        Rig jal = new Rig(Asm.jal(64), Asm.special(33, 31, 0, 5, 0));
        jal.core.run(2);
        CHECK.due("JAL", jal.core.state(0), 64);
        CHECK.due("the slot sees the link", jal.core.get(5), 8);
        Rig jr = new Rig(Asm.jr(7), Asm.addiu(7, 7, 100)).with(7, 64);
        jr.core.run(2);
        CHECK.due("JR goes where the register was", jr.core.state(0), 64);
        Rig jalr = new Rig(Asm.jalr(6, 7), Asm.addiu(7, 7, 100)).with(7, 64).with(31, 3);
        jalr.core.run(2);
        CHECK.due("JALR", jalr.core.state(0), 64);
        CHECK.due("its link", jalr.core.get(6), 8);
        CHECK.due("31 stays", jalr.core.get(31), 3);
        Rig zero = new Rig(Asm.jalr(0, 7), Asm.NOP).with(7, 64);
        zero.core.run(2);
        CHECK.due("JALR into 0", zero.core.state(0), 64);
        Rig from31 = new Rig(Asm.jalr(5, 31), Asm.NOP).with(31, 96);
        from31.core.run(2);
        CHECK.due("JALR of 31", from31.core.state(0), 96);
    }
}
