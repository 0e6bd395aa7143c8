/** Promises 5 and 6, set and get: a method for each part of their sentences, with its words in its remark. */
public final class SetGetTest {
    private static final Check CHECK = new Check("SetGetTest");
    private static final int[] BAD = {-1, -2, -32, 67, 68, 98, 100, 130, Integer.MIN_VALUE, Integer.MIN_VALUE + 66,
        Integer.MAX_VALUE};

    public static void main(String[] args) {
        eachOne();
        registers();
        knownThen();
        fractions();
        conditions();
        zeroForUnknown();
        setRefused();
        oneOfThese();
        getRefused();
        getUnknown();
        CHECK.close();
    }

    private static int held(int which, int v) {
        return which == 0 ? 0 : which == 66 ? v & 255 : v;
    }

    /** Promise 5: "becomes v: what it was": each of the 67 alone. */
    private static void eachOne() {
        CHECK.sentence("Promise 5", "becomes v: what it was");
        DelayCore core = new DelayCore(1024);
        for (int i = 0; i <= 66; i++) {
            CHECK.due("set " + i, core.set(i, -1000 - i), 0);
        }
        for (int i = 0; i <= 66; i++) {
            CHECK.due("get " + i, core.get(i), held(i, -1000 - i));
        }
        for (int i = 0; i <= 66; i++) {
            CHECK.due("set again " + i, core.set(i, 77), held(i, -1000 - i));
        }
        for (int i = 0; i < 8; i++) {
            CHECK.due("state " + i, core.state(i), i == 1 ? 4 : 0);
        }
        CHECK.due("end", core.end(), 0);
    }

    /** Promise 5: "0 .. 31 a register": the first, which stays 0, the last, and what a step reads. */
    private static void registers() {
        CHECK.sentence("Promise 5", "0 .. 31 a register");
        Rig rig = new Rig(Asm.special(33, 0, 31, 30, 0));
        for (int v : new int[] {1, -1, Integer.MIN_VALUE, Integer.MAX_VALUE}) {
            CHECK.due("set 0", rig.core.set(0, v), 0);
            CHECK.due("get 0", rig.core.get(0), 0);
        }
        CHECK.due("set 31", rig.core.set(31, Integer.MIN_VALUE), 0);
        CHECK.due("step", rig.core.run(1), 1);
        CHECK.due("what it read", rig.core.get(30), Integer.MIN_VALUE);
    }

    /** Promise 5: "32 HI, 33 LO (known then)": each by itself. */
    private static void knownThen() {
        CHECK.sentence("Promise 5", "32 HI, 33 LO (known then)");
        for (int one : new int[] {Rig.HI, Rig.LO}) {
            int other = Rig.HI + Rig.LO - one;
            Rig rig = new Rig(Asm.mul(1, 1, 1), one == Rig.HI ? Asm.mfhi(3) : Asm.mflo(3), Asm.special2(0, 0, 0, 0))
                .behind(1);
            CHECK.due("set", rig.core.set(one, 11), 0);
            CHECK.due("known then", rig.core.get(one), 11);
            CHECK.throwing("the other is not", IllegalStateException.class, () -> rig.core.get(other));
            CHECK.due("it can be moved", rig.core.run(1), 1);
            CHECK.due("what was moved", rig.core.get(3), 11);
            CHECK.due("set of the other", rig.core.set(other, 12), 0);
            CHECK.due("known then, too", rig.core.get(other), 12);
            CHECK.due("MADD", rig.core.run(1), 1);
        }
        Rig zero = new Rig(Asm.mul(1, 1, 1), Asm.mfhi(3)).behind(1);
        CHECK.due("set to 0", zero.core.set(Rig.HI, 0), 0);
        CHECK.due("known, though 0", zero.core.get(Rig.HI), 0);
    }

    /** Promise 5: "34 .. 65 a fraction": the first and the last, as a step reads them. */
    private static void fractions() {
        CHECK.sentence("Promise 5", "34 .. 65 a fraction");
        Rig rig = new Rig(0x44000000 | 1 << 16, 0x44000000 | 2 << 16 | 31 << 11).with(34, 0x7F800001).with(65, -1);
        CHECK.due("MFC1 of 0 and 31", rig.core.run(2), 2);
        CHECK.due("fraction 0", rig.core.get(1), 0x7F800001);
        CHECK.due("fraction 31", rig.core.get(2), -1);
        CHECK.due("LO, ahead of them, stays", rig.core.get(33), 0);
        CHECK.due("the conditions, behind them, stay", rig.core.get(66), 0);
    }

    /** Promise 5: "66 the conditions (8 bits, 0 the lowest; others are not looked at)". */
    private static void conditions() {
        CHECK.sentence("Promise 5", "66 the conditions (8 bits, 0 the lowest; others are not looked at)");
        DelayCore core = new DelayCore(1024);
        int[][] cases = {{77, 77}, {255, 255}, {256, 0}, {0x1FF, 255}, {-256, 0}, {-1, 255}, {Integer.MIN_VALUE, 0},
            {Integer.MIN_VALUE + 129, 129}, {0xABCD, 0xCD}};
        int before = 0;
        for (int[] one : cases) {
            CHECK.due("what they were", core.set(66, one[0]), before);
            CHECK.due("of " + one[0], core.get(66), one[1]);
            before = one[1];
        }
        for (int cc = 0; cc < 8; cc++) {
            Rig rig = new Rig(Asm.bc1(true, false, cc, 4)).with(66, 1 << cc | 0x700).behind(1);
            CHECK.due("bit " + cc + " is condition " + cc, rig.core.state(6), 1);
            Rig not = new Rig(Asm.bc1(true, false, cc, 4)).with(66, ~(1 << cc)).behind(1);
            CHECK.due("no other bit is", not.core.state(6), 0);
        }
    }

    /** Promise 5: "(0 for what was UNKNOWN)": whatever it held before that. */
    private static void zeroForUnknown() {
        CHECK.sentence("Promise 5", "(0 for what was UNKNOWN)");
        for (int maker : new int[] {Asm.divu(1, 0), Asm.special(26, 1, 0, 0, 0), Asm.mul(2, 1, 1)}) {
            Rig rig = new Rig(maker).with(1, 9).with(Rig.HI, 5).with(Rig.LO, 6).behind(1);
            CHECK.due("HI", rig.core.set(Rig.HI, 11), 0);
            CHECK.due("LO", rig.core.set(Rig.LO, 12), 0);
            CHECK.due("HI, known", rig.core.set(Rig.HI, 13), 11);
            CHECK.due("LO, known", rig.core.set(Rig.LO, 14), 12);
        }
    }

    /** Promise 5: "IndexOutOfBoundsException: another one." */
    private static void setRefused() {
        CHECK.sentence("Promise 5", "IndexOutOfBoundsException: another one.");
        Rig rig = new Rig(Asm.mul(1, 1, 1)).with(31, 7).with(65, 8).with(66, 9).behind(1);
        String before = rig.picture();
        for (int bad : BAD) {
            CHECK.throwing("set " + bad, IndexOutOfBoundsException.class, () -> rig.core.set(bad, 1));
        }
        CHECK.due("nothing changed", rig.picture(), before);
    }

    /** Promise 6: "One of these.": asking does not change it. */
    private static void oneOfThese() {
        CHECK.sentence("Promise 6", "One of these.");
        DelayCore core = new DelayCore(1024);
        for (int i = 0; i <= 66; i++) {
            core.set(i, i + 100);
            CHECK.due("get " + i, core.get(i), i == 0 ? 0 : i + 100);
            CHECK.due("get " + i + " again", core.get(i), i == 0 ? 0 : i + 100);
        }
    }

    /** Promise 6: "IndexOutOfBoundsException: another one": also when HI and LO are UNKNOWN. */
    private static void getRefused() {
        CHECK.sentence("Promise 6", "IndexOutOfBoundsException: another one; IllegalStateException: it is UNKNOWN.");
        for (int word : new int[] {Asm.NOP, Asm.mul(1, 1, 1)}) {
            Rig rig = new Rig(word).behind(1);
            for (int bad : BAD) {
                CHECK.throwing("get " + bad, IndexOutOfBoundsException.class, () -> rig.core.get(bad));
            }
            CHECK.due("the first", rig.core.get(0), 0);
            CHECK.due("the last", rig.core.get(66), 0);
        }
    }

    /** Promise 6: "IllegalStateException: it is UNKNOWN.": of HI and LO alone, and it stays so. */
    private static void getUnknown() {
        CHECK.sentence("Promise 6", "IllegalStateException: it is UNKNOWN.");
        for (int maker : new int[] {Asm.divu(1, 0), Asm.special(26, 1, 0, 0, 0), Asm.mul(2, 1, 1)}) {
            Rig rig = new Rig(maker, Asm.mfhi(3)).with(1, 9).with(Rig.HI, 5).with(Rig.LO, 6).behind(1);
            for (int i = 0; i < 2; i++) {
                CHECK.throwing("HI", IllegalStateException.class, () -> rig.core.get(Rig.HI));
                CHECK.throwing("LO", IllegalStateException.class, () -> rig.core.get(Rig.LO));
            }
            CHECK.due("31 is known", rig.core.get(31), 0);
            CHECK.due("34 is known", rig.core.get(34), 0);
            CHECK.due("a step sees it UNKNOWN, too", rig.endAfter(1), 8);
            CHECK.throwing("behind that end", IllegalStateException.class, () -> rig.core.get(Rig.HI));
        }
    }
}
