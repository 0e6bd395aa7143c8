/** What the document says of all calls: a method for each sentence, with its words in its remark. */
public final class CallTermsTest {
    private static final Check CHECK = new Check("CallTermsTest");
    private static final int MAX = Integer.MAX_VALUE;
    private static final int MIN = Integer.MIN_VALUE;

    public static void main(String[] args) {
        firstOneTold();
        changesNothing();
        calls();
        mostSteps();
        CHECK.close();
    }

    /** A LINK, HI UNKNOWN, LO known, conditions and a fraction; then a branch whose slot holds this word. */
    private static Rig past(int word, int steps) {
        Rig rig = new Rig(Asm.mul(2, 2, 2), Asm.mtlo(2), Asm.ll(1, 0, 512), Asm.beq(0, 0, 12), word)
            .code(64, Asm.sc(1, 0, 512)).code(512, 9).with(2, 5).with(3, MAX).with(Rig.FRACTION + 3, 7)
            .with(Rig.CONDITIONS, 0x99);
        return rig.behind(steps);
    }

    /** "Of several exceptions the first one told is thrown": run alone can have two. */
    private static void firstOneTold() {
        CHECK.sentence("Terms", "Of several exceptions the first one told is thrown");
        for (int word : new int[] {Asm.lw(1, 0, 1), Asm.breakWith(1), Asm.syscall(1), Asm.j(0)}) {
            Rig rig = past(word, 5);
            CHECK.due("it has ended", rig.core.end() != 0 ? 1 : 0, 1);
            for (int n : new int[] {0, -1, 10_001, MAX, MIN}) {
                CHECK.throwing("run " + n, IllegalArgumentException.class, () -> rig.core.run(n));
            }
            CHECK.throwing("run 1", IllegalStateException.class, () -> rig.core.run(1));
            CHECK.throwing("run 10,000", IllegalStateException.class, () -> rig.core.run(10_000));
        }
        Rig unknown = past(Asm.NOP, 1);
        CHECK.throwing("get -1", IndexOutOfBoundsException.class, () -> unknown.core.get(-1));
        CHECK.throwing("get 67", IndexOutOfBoundsException.class, () -> unknown.core.get(67));
        CHECK.throwing("get 32", IllegalStateException.class, () -> unknown.core.get(32));
    }

    /** "a call that throws changes nothing": every refused call, beside an object that was not asked. */
    private static void changesNothing() {
        CHECK.sentence("Terms", "a call that throws changes nothing");
        int[] words = {Asm.NOP, Asm.lw(1, 0, 1), Asm.sw(1, 0, 1), -1, Asm.special(32, 3, 3, 4, 0),
            Asm.special(52, 0, 0, 0, 0), Asm.breakWith(6), Asm.syscall(6), Asm.j(0)};
        for (int end = 0; end < words.length; end++) {
            int steps = end == 0 ? 4 : 5;
            Rig rig = past(words[end], steps);
            CHECK.due("end", rig.core.end(), end);
            refusedCalls(rig.core, end);
            CHECK.due("end stays", rig.core.end(), end);
            CHECK.due("all stays", rig.wholePicture(), past(words[end], steps).wholePicture());
            if (end == 6 || end == 7) {
                CHECK.due("it can be passed", rig.core.pass(), 6);
                CHECK.due("the LINK stays", rig.core.run(1), 1);
            }
            if (end == 0) {
                CHECK.due("the slot, and the LINK stays", rig.core.run(2), 2);
            }
        }
    }

    private static void refusedCalls(DelayCore core, int end) {
        for (int address : new int[] {1, 2, 3, 514, 1022, 1024, -4, MIN}) {
            CHECK.throwing("put", IllegalArgumentException.class, () -> core.put(address, 1));
            CHECK.throwing("word", IllegalArgumentException.class, () -> core.word(address));
        }
        for (int address : new int[] {1, 2, 3, 66, -1}) {
            CHECK.throwing("go", IllegalArgumentException.class, () -> core.go(address));
        }
        for (int which : new int[] {-1, 67, MAX, MIN}) {
            CHECK.throwing("set", IndexOutOfBoundsException.class, () -> core.set(which, 1));
            CHECK.throwing("get", IndexOutOfBoundsException.class, () -> core.get(which));
            CHECK.throwing("state", IndexOutOfBoundsException.class, () -> core.state(which));
        }
        CHECK.throwing("get of what is UNKNOWN", IllegalStateException.class, () -> core.get(Rig.HI));
        for (int n : new int[] {0, -1, 10_001, MIN}) {
            CHECK.throwing("run", IllegalArgumentException.class, () -> core.run(n));
        }
        if (end != 0) {
            CHECK.throwing("run behind an end", IllegalStateException.class, () -> core.run(1));
        }
        if (end != 6 && end != 7) {
            CHECK.throwing("pass", IllegalStateException.class, core::pass);
        }
    }

    /** "An object is used for at most 512 calls after it has been made": the last of them is as the first. */
    private static void calls() {
        CHECK.sentence("What it is", "An object is used for at most 512 calls after it has been made");
        DelayCore core = new DelayCore(1024);
        for (int i = 0; i < 511; i++) {
            CHECK.due("put " + i, core.put(1020, i + 1), i);
        }
        CHECK.due("the 512th call", core.word(1020), 511);
    }

    /** The same words: 507 times 10,000 steps and five other calls; each step is counted. */
    private static void mostSteps() {
        CHECK.sentence("What it is", "An object is used for at most 512 calls");
        DelayCore core = new DelayCore(1024);
        core.put(0, Asm.beq(0, 0, -1));
        core.put(4, Asm.sw(1, 0, 512));
        for (int i = 0; i < 507; i++) {
            CHECK.due("run " + i, core.run(10_000), 10_000);
        }
        CHECK.due("steps", core.state(3), 5_070_000);
        CHECK.due("stores", core.state(5), 2_535_000);
        CHECK.due("branches", core.state(6), 2_535_000);
    }
}
