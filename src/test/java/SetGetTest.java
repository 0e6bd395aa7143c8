/** Promises 5 and 6. */
public final class SetGetTest {
    public static void main(String[] args) {
        Check check = new Check("SetGetTest");
        DelayCore core = new DelayCore(1024);
        for (int i = 0; i <= 66; i++) {
            check.due("set " + i, core.set(i, -1000 - i), 0);
        }
        for (int i = 0; i <= 66; i++) {
            check.due("get " + i, core.get(i), held(i, -1000 - i));
        }
        for (int i = 0; i <= 66; i++) {
            check.due("set again " + i, core.set(i, 77), held(i, -1000 - i));
        }
        for (int bad : new int[] {-1, 67, 68, 100, Integer.MIN_VALUE, Integer.MAX_VALUE}) {
            check.throwing("set " + bad, IndexOutOfBoundsException.class, () -> core.set(bad, 1));
            check.throwing("get " + bad, IndexOutOfBoundsException.class, () -> core.get(bad));
        }
        check.due("conditions have 8 bits", core.set(66, 0x1FF), 77);
        check.due("conditions", core.get(66), 255);
        check.due("other bits are not looked at", core.set(66, -256), 255);
        check.due("conditions", core.get(66), 0);
        unknown(check, Asm.divu(1, 0));
        unknown(check, Asm.mul(2, 1, 1));
        check.close();
    }

    private static int held(int which, int v) {
        return which == 0 ? 0 : which == 66 ? v & 255 : v;
    }

    private static void unknown(Check check, int maker) {
        Rig rig = new Rig(maker, Asm.mfhi(3)).with(1, 9).with(Rig.HI, 5).with(Rig.LO, 6);
        rig.core.run(1);
        check.throwing("HI", IllegalStateException.class, () -> rig.core.get(Rig.HI));
        check.throwing("LO", IllegalStateException.class, () -> rig.core.get(Rig.LO));
        check.due("0 for what was unknown", rig.core.set(Rig.HI, 11), 0);
        check.due("HI is known then", rig.core.get(Rig.HI), 11);
        check.throwing("LO is not", IllegalStateException.class, () -> rig.core.get(Rig.LO));
        check.due("MFHI", rig.core.run(1), 1);
        check.due("what MFHI moved", rig.core.get(3), 11);
        check.due("0 for the other", rig.core.set(Rig.LO, 12), 0);
        check.due("what it was", rig.core.set(Rig.LO, 13), 12);
        check.due("LO is known then", rig.core.get(Rig.LO), 13);
    }
}
