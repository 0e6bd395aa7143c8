/** Promise 10. */
public final class StateTest {
    public static void main(String[] args) {
        Check check = new Check("StateTest");
        DelayCore core = new DelayCore(1024);
        for (int bad : new int[] {-1, 8, 9, Integer.MIN_VALUE, Integer.MAX_VALUE}) {
            check.throwing("state " + bad, IndexOutOfBoundsException.class, () -> core.state(bad));
        }
        way(check);
        counts(check);
        check.close();
    }

    private static void way(Check check) {
        Rig rig = new Rig(Asm.beq(0, 0, 3), Asm.NOP, Asm.NOP, Asm.NOP, Asm.bne(0, 0, 3), Asm.NOP,
            Asm.bnel(0, 0, 3), Asm.NOP, Asm.NOP);
        int[][] due = {{4, 16, 1}, {16, 20, 0}, {20, 24, 1}, {24, 28, 0}, {32, 36, 0}, {36, 40, 0}};
        for (int i = 0; i < due.length; i++) {
            rig.core.run(1);
            for (int k = 0; k < 3; k++) {
                check.due("state " + k + " behind step " + i, rig.core.state(k), due[i][k]);
            }
        }
    }

    private static void counts(Check check) {
        int d = Rig.DATA;
        counted(check, "loads", 4, Asm.lw(1, 0, d), Asm.ll(1, 0, d), load(32, d), load(33, d), load(34, d + 1),
            load(36, d + 1), load(37, d + 2), load(38, d + 3), load(49, d), load(53, d), Asm.lw(0, 0, d));
        counted(check, "stores", 5, Asm.sw(1, 0, d), load(40, d + 3), load(41, d + 2), load(42, d + 1),
            load(46, d + 1), load(57, d), load(61, d));
        counted(check, "no access", 3, Asm.NOP, load(51, d), Asm.special(15, 0, 0, 0, 0), Asm.addiu(1, 1, 1));
        Rig rig = new Rig(Asm.ll(1, 0, d), Asm.sc(1, 0, d), Asm.sc(1, 0, d));
        check.due("SC without a LINK", rig.endAfter(3), 8);
        check.due("LL is a load", rig.core.state(4), 1);
        check.due("SC is a store", rig.core.state(5), 1);
        Rig jumps = new Rig(Asm.jal(16), Asm.NOP, Asm.NOP, Asm.NOP, Asm.beq(1, 0, 1), Asm.NOP, Asm.jr(2), Asm.NOP)
            .with(2, 32);
        jumps.core.put(32, Asm.jalr(3, 4));
        jumps.core.set(4, 48);
        jumps.core.put(48, Asm.bne(0, 0, 1));
        jumps.core.put(56, Asm.j(0));
        check.due("steps", jumps.core.run(11), 11);
        check.due("branches that went and jumps", jumps.core.state(6), 5);
        check.due("slots passed over", jumps.core.state(7), 0);
    }

    private static int load(int opcode, int address) {
        return Asm.immediate(opcode, 0, 2, address);
    }

    private static void counted(Check check, String what, int state, int... code) {
        Rig rig = new Rig(code);
        check.due(what + ": run", rig.core.run(code.length), code.length);
        check.due(what + ": steps", rig.core.state(3), code.length);
        check.due(what + ": counted", rig.core.state(state), code.length);
        for (int i = 4; i < 8; i++) {
            check.due(what + ": state " + i, rig.core.state(i), i == state ? code.length : 0);
        }
    }
}
