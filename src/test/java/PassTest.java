/** Promise 9. */
public final class PassTest {
    public static void main(String[] args) {
        Check check = new Check("PassTest");
        DelayCore fresh = new DelayCore(1024);
        check.throwing("pass of a new one", IllegalStateException.class, fresh::pass);
        codes(check);
        inSlot(check);
        linkStays(check);
        otherEnds(check);
        check.close();
    }

    private static void codes(Check check) {
        for (int code : new int[] {0, 1, 5, 0x80000, 0xFFFFF, 0x12345}) {
            Rig rig = new Rig(Asm.NOP, Asm.syscall(code), Asm.breakWith(code), Asm.NOP);
            check.due("run to SYSCALL", rig.core.run(9), 1);
            check.due("SYSCALL", rig.core.end(), 7);
            check.due("its code", rig.core.pass(), code);
            check.due("no end", rig.core.end(), 0);
            check.due("passing is a step", rig.core.state(3), 2);
            check.due("PC", rig.core.state(0), 8);
            check.due("NEXT", rig.core.state(1), 12);
            check.throwing("nothing to pass", IllegalStateException.class, rig.core::pass);
            check.due("run to BREAK", rig.core.run(9), 0);
            check.due("BREAK", rig.core.end(), 6);
            check.due("its code", rig.core.pass(), code);
            check.due("passing is a step", rig.core.state(3), 3);
            check.due("it goes on", rig.core.run(1), 1);
        }
    }

    private static void inSlot(Check check) {
        Rig rig = new Rig(Asm.j(64), Asm.breakWith(2));
        check.due("run into the slot", rig.core.run(5), 1);
        check.due("BREAK", rig.core.end(), 6);
        check.due("a slot", rig.core.state(2), 1);
        check.due("code", rig.core.pass(), 2);
        check.due("PC is the target", rig.core.state(0), 64);
        check.due("NEXT", rig.core.state(1), 68);
        check.due("no slot", rig.core.state(2), 0);
        check.due("jumps", rig.core.state(6), 1);
    }

    private static void linkStays(Check check) {
        Rig rig = new Rig(Asm.ll(1, 0, Rig.DATA), Asm.syscall(0), Asm.sc(1, 0, Rig.DATA));
        rig.core.run(3);
        rig.core.pass();
        check.due("SC", rig.core.run(1), 1);
    }

    private static void otherEnds(Check check) {
        int[] words = {Asm.lw(1, 0, 2), Asm.sw(1, 0, 2), -1, Asm.immediate(8, 1, 2, 1),
            Asm.special(0b110100, 0, 0, 0, 5), 0, 0, Asm.jalr(1, 1)};
        for (int kind = 1; kind <= 8; kind++) {
            if (kind == 6 || kind == 7) {
                continue;
            }
            Rig rig = new Rig(words[kind - 1]).with(1, Integer.MAX_VALUE);
            check.due("end", rig.endAfter(1), kind);
            String before = rig.picture();
            check.throwing("pass of end " + kind, IllegalStateException.class, rig.core::pass);
            check.due("end stays", rig.core.end(), kind);
            check.due("nothing changed", rig.picture(), before);
        }
    }
}
