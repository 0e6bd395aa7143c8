/** Promise 10, state: a method for each part of its sentences, with its words in its remark. */
public final class StateTest {
    private static final Check CHECK = new Check("StateTest");
    private static final String PLACE = "Promise 10";
    private static final int D = Rig.DATA;

    public static void main(String[] args) {
        pcAndNext();
        slot();
        steps();
        loads();
        stores();
        branchesThatWent();
        slotsPassedOver();
        ofAllTimes();
        refused();
        CHECK.close();
    }

    /** "PC (0), NEXT (1)": at first, behind each kind of step, with the highest bit. */
    private static void pcAndNext() {
        CHECK.sentence(PLACE, "PC (0), NEXT (1)");
        Rig rig = new Rig(Asm.beq(0, 0, 3), Asm.NOP, Asm.NOP, Asm.NOP, Asm.bne(0, 0, 3), Asm.NOP, Asm.bnel(0, 0, 3),
            Asm.NOP, Asm.jr(1), Asm.NOP).with(1, Integer.MIN_VALUE);
        int[][] due = {{0, 4}, {4, 16}, {16, 20}, {20, 24}, {24, 28}, {32, 36}, {36, Integer.MIN_VALUE},
            {Integer.MIN_VALUE, Integer.MIN_VALUE + 4}};
        for (int[] one : due) {
            CHECK.due("PC", rig.core.state(0), one[0]);
            CHECK.due("NEXT", rig.core.state(1), one[1]);
            rig.core.run(1);
        }
        CHECK.due("no step there", rig.core.end(), 1);
        CHECK.due("PC behind an end", rig.core.state(0), Integer.MIN_VALUE);
    }

    /** "1 when PC is a slot's, else 0 (2)". */
    private static void slot() {
        CHECK.sentence(PLACE, "1 when PC is a slot's, else 0 (2)");
        Rig rig = new Rig(Asm.beq(0, 0, 3), Asm.NOP, Asm.NOP, Asm.NOP, Asm.bne(0, 0, 3), Asm.NOP, Asm.bnel(0, 0, 3),
            Asm.NOP, Asm.jal(40), Asm.breakWith(0));
        int[] due = {0, 1, 0, 1, 0, 0, 1};
        for (int one : due) {
            CHECK.due("slot", rig.core.state(2), one);
            rig.core.run(1);
        }
        CHECK.due("an end in a slot", rig.core.end(), 6);
        CHECK.due("it stays one", rig.core.state(2), 1);
        rig.core.pass();
        CHECK.due("passed", rig.core.state(2), 0);
    }

    /** "steps (3; passing is one)": one that ends is none, what is passed over is none. */
    private static void steps() {
        CHECK.sentence(PLACE, "steps (3; passing is one)");
        Rig rig = new Rig(Asm.NOP, Asm.bnel(0, 0, 1), Asm.NOP, Asm.breakWith(0), Asm.syscall(0), Asm.j(0), -1);
        int[] due = {1, 2, 2, 3, 3, 4, 5, 5};
        CHECK.due("none at first", rig.core.state(3), 0);
        for (int i = 0; i < due.length; i++) {
            if (i == 3 || i == 5) {
                rig.core.pass();
            } else {
                rig.core.run(1);
            }
            CHECK.due("steps behind call " + i, rig.core.state(3), due[i]);
        }
        CHECK.due("the last one ended", rig.core.end(), 3);
    }

    /** "loads (4)": each kind is one, into register 0 too; one that ends is none. */
    private static void loads() {
        CHECK.sentence(PLACE, "loads (4)");
        counted("loads", 4, Asm.lw(1, 0, D), Asm.ll(1, 0, D), access(Asm.LB, D), access(Asm.LH, D), access(Asm.LWL,
            D + 1),
            access(Asm.LBU, D + 1), access(Asm.LHU, D + 2), access(Asm.LWR, D + 3), access(Asm.LWC1, D),
            access(Asm.LDC1, D), Asm.lw(0, 0, D));
        for (int opcode : new int[] {Asm.LB, Asm.LBU, Asm.LH, Asm.LHU, Asm.LW, Asm.LWL, Asm.LWR, Asm.LL, Asm.LWC1,
            Asm.LDC1}) {
            counted("a load alone", 4, access(opcode, D));
            CHECK.due("one that ends", new Rig(access(opcode, 1024)).behind(1).core.state(4), 0);
        }
        counted("no access", 3, Asm.NOP, access(Asm.PREF, D), Asm.special(15, 0, 0, 0, 0), Asm.addiu(1, 1, 1));
    }

    /** "stores (5)": likewise. */
    private static void stores() {
        CHECK.sentence(PLACE, "stores (5)");
        counted("stores", 5, Asm.sw(1, 0, D), access(Asm.SB, D + 3), access(Asm.SH, D + 2), access(Asm.SWL, D + 1),
            access(Asm.SWR, D + 1), access(Asm.SWC1, D), access(Asm.SDC1, D));
        for (int opcode : new int[] {Asm.SB, Asm.SH, Asm.SW, Asm.SWL, Asm.SWR, Asm.SWC1, Asm.SDC1}) {
            counted("a store alone", 5, access(opcode, D));
            CHECK.due("one that ends", new Rig(access(opcode, 1024)).behind(1).core.state(5), 0);
        }
        Rig rig = new Rig(Asm.ll(1, 0, D), Asm.sc(1, 0, D), Asm.sc(1, 0, D));
        CHECK.due("SC without a LINK", rig.endAfter(3), 8);
        CHECK.due("LL is a load", rig.core.state(4), 1);
        CHECK.due("SC is a store, one that ends is none", rig.core.state(5), 1);
        DelayCore put = new DelayCore(1024);
        put.put(0, 1);
        put.word(0);
        CHECK.due("put is no store", put.state(5), 0);
        CHECK.due("word is no load", put.state(4), 0);
    }

    /** "branches that went and jumps (6)": as soon as they are done, ahead of their slot. */
    private static void branchesThatWent() {
        CHECK.sentence(PLACE, "branches that went and jumps (6)");
        Rig jumps = new Rig(Asm.jal(16), Asm.NOP, Asm.NOP, Asm.NOP, Asm.beq(1, 0, 1), Asm.NOP, Asm.jr(2), Asm.NOP)
            .with(2, 32).code(32, Asm.jalr(3, 4)).with(4, 48).code(48, Asm.bne(0, 0, 1)).code(56, Asm.j(0));
        int[] due = {1, 1, 2, 2, 3, 3, 4, 4, 4, 4, 5};
        for (int i = 0; i < due.length; i++) {
            CHECK.due("step", jumps.core.run(1), 1);
            CHECK.due("behind step " + i, jumps.core.state(6), due[i]);
        }
        CHECK.due("slots passed over", jumps.core.state(7), 0);
        Rig next = new Rig(Asm.beq(0, 0, 0)).behind(1);
        CHECK.due("to what is behind it goes, too", next.core.state(6), 1);
        Rig ended = new Rig(Asm.j(64), Asm.j(64)).behind(2);
        CHECK.due("one that ends is none", ended.core.state(6), 1);
    }

    /** "slots passed over (7)": of likely ones that do not go alone. */
    private static void slotsPassedOver() {
        CHECK.sentence(PLACE, "slots passed over (7)");
        Rig rig = new Rig(Asm.bnel(0, 0, 1), Asm.NOP, Asm.bne(0, 0, 1), Asm.NOP, Asm.bnel(0, 0, 1), Asm.NOP,
            Asm.immediate(20, 0, 0, 1), Asm.NOP);
        int[] due = {1, 1, 1, 2, 2, 2};
        CHECK.due("none at first", rig.core.state(7), 0);
        for (int i = 0; i < due.length; i++) {
            CHECK.due("step", rig.core.run(1), 1);
            CHECK.due("behind step " + i, rig.core.state(7), due[i]);
        }
        CHECK.due("one went", rig.core.state(6), 1);
    }

    /** "of all times": neither go nor an end nor pass takes any of them away. */
    private static void ofAllTimes() {
        CHECK.sentence(PLACE, "of all times");
        Rig rig = new Rig(Asm.lw(1, 0, D), Asm.sw(1, 0, D), Asm.bnel(0, 0, 1), Asm.NOP, Asm.beq(0, 0, 1),
            Asm.breakWith(1), -1);
        for (int round = 1; round <= 30; round++) {
            CHECK.due("run to BREAK", rig.core.run(10_000), 4);
            rig.core.pass();
            CHECK.due("the reserved one", rig.endAfter(1), 3);
            CHECK.due("steps", rig.core.state(3), 5 * round);
            for (int what = 4; what < 8; what++) {
                CHECK.due("state " + what, rig.core.state(what), round);
            }
            rig.core.go(0);
        }
    }

    /** "IndexOutOfBoundsException: another one." */
    private static void refused() {
        CHECK.sentence(PLACE, "IndexOutOfBoundsException: another one.");
        DelayCore core = new DelayCore(1024);
        for (int bad : new int[] {-1, -2, -8, 8, 9, 16, 256, Integer.MIN_VALUE, Integer.MIN_VALUE + 1,
            Integer.MAX_VALUE}) {
            CHECK.throwing("state " + bad, IndexOutOfBoundsException.class, () -> core.state(bad));
        }
        CHECK.due("the first", core.state(0), 0);
        CHECK.due("the last", core.state(7), 0);
    }

    private static int access(int opcode, int address) {
        return Asm.access(opcode, 2, 0, address);
    }

    private static void counted(String what, int state, int... code) {
        Rig rig = new Rig(code);
        CHECK.due(what + ": run", rig.core.run(code.length), code.length);
        CHECK.due(what + ": steps", rig.core.state(3), code.length);
        CHECK.due(what + ": counted", rig.core.state(state), code.length);
        for (int i = 4; i < 8; i++) {
            CHECK.due(what + ": state " + i, rig.core.state(i), i == state ? code.length : 0);
        }
    }
}
