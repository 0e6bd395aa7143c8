/** Promise 4. */
public final class GoTest {
    public static void main(String[] args) {
        Check check = new Check("GoTest");
        DelayCore core = new DelayCore(1024);
        check.due("go 100", core.go(100), 0);
        check.due("PC", core.state(0), 100);
        check.due("NEXT", core.state(1), 104);
        for (int bad : new int[] {1, 2, 3, 101, -1, -2, -3, Integer.MAX_VALUE}) {
            check.throwing("go " + bad, IllegalArgumentException.class, () -> core.go(bad));
        }
        check.due("PC stays", core.state(0), 100);
        check.due("go -4", core.go(-4), 100);
        check.due("NEXT goes round", core.state(1), 0);
        check.due("go to the highest half", core.go(Integer.MIN_VALUE), -4);
        check.due("go beyond memory", core.go(1024), Integer.MIN_VALUE);
        check.due("no step there", core.run(1), 0);
        check.due("its end", core.end(), 1);
        check.due("go 0", core.go(0), 1024);
        check.due("no end", core.end(), 0);
        noSlot(check);
        noLink(check);
        countsStay(check);
        check.close();
    }

    private static void noSlot(Check check) {
        Rig rig = new Rig(Asm.j(64), Asm.NOP);
        rig.core.run(1);
        check.due("in a slot", rig.core.state(2), 1);
        check.due("go out of it", rig.core.go(0), 4);
        check.due("no slot", rig.core.state(2), 0);
        check.due("the jump is done again", rig.core.run(1), 1);
        check.due("no end", rig.core.end(), 0);
    }

    private static void noLink(Check check) {
        Rig rig = new Rig(Asm.ll(1, 0, Rig.DATA), Asm.sc(1, 0, Rig.DATA));
        rig.core.run(1);
        rig.core.go(4);
        check.due("SC has no LINK", rig.endAfter(1), 8);
        rig.core.go(0);
        check.due("LL and SC", rig.core.run(2), 2);
    }

    private static void countsStay(Check check) {
        Rig rig = new Rig(Asm.lw(1, 0, Rig.DATA), Asm.sw(1, 0, Rig.DATA), Asm.bnel(0, 0, 1), Asm.NOP, Asm.j(0));
        rig.core.run(4);
        rig.core.go(0);
        for (int i = 3; i < 8; i++) {
            check.due("count " + i, rig.core.state(i), i == 3 ? 4 : 1);
        }
    }
}
