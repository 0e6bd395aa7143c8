/** Promise 9, pass: a method for each part of its sentences, with its words in its remark. */
public final class PassTest {
    private static final Check CHECK = new Check("PassTest");
    private static final String PLACE = "Promise 9";

    public static void main(String[] args) {
        codes();
        goesOn();
        inSlot();
        atTheEdge();
        doesNothing();
        noneSuch();
        otherEnds();
        CHECK.close();
    }

    /** "its code (bits 25 to 6)": none, each alone, all. */
    private static void codes() {
        CHECK.sentence(PLACE, "its code (bits 25 to 6)");
        for (int i = -2; i < 20; i++) {
            int code = i == -2 ? 0 : i == -1 ? 0xFFFFF : 1 << i;
            Rig rig = new Rig(Asm.syscall(code), Asm.breakWith(code));
            CHECK.due("SYSCALL", rig.endAfter(9), 7);
            CHECK.due("its code", rig.core.pass(), code);
            CHECK.due("BREAK", rig.endAfter(9), 6);
            CHECK.due("its code", rig.core.pass(), code);
        }
    }

    /** "it goes on as if that were a step": PC and NEXT move, and it is counted (promise 10: "passing is one"). */
    private static void goesOn() {
        CHECK.sentence(PLACE, "it goes on as if that were a step that does nothing");
        for (int code : new int[] {0, 1, 5, 0x80000, 0xFFFFF, 0x12345}) {
            Rig rig = new Rig(Asm.NOP, Asm.syscall(code), Asm.breakWith(code), Asm.NOP);
            CHECK.due("run to SYSCALL", rig.core.run(9), 1);
            CHECK.due("SYSCALL", rig.core.end(), 7);
            CHECK.due("its code", rig.core.pass(), code);
            CHECK.due("no end", rig.core.end(), 0);
            CHECK.due("passing is a step", rig.core.state(3), 2);
            CHECK.due("PC", rig.core.state(0), 8);
            CHECK.due("NEXT", rig.core.state(1), 12);
            CHECK.throwing("nothing to pass", IllegalStateException.class, rig.core::pass);
            CHECK.due("run to BREAK", rig.core.run(9), 0);
            CHECK.due("BREAK", rig.core.end(), 6);
            CHECK.due("its code", rig.core.pass(), code);
            CHECK.due("passing is a step", rig.core.state(3), 3);
            CHECK.due("it goes on", rig.core.run(1), 1);
        }
    }

    /** The same words in a slot: of a jump, of a branch that went, and of one that did not. */
    private static void inSlot() {
        CHECK.sentence(PLACE, "it goes on as if that were a step that does nothing");
        int[][] branches = {{Asm.j(64), 64, 1}, {Asm.beq(0, 0, 15), 64, 1}, {Asm.bne(0, 0, 15), 8, 0}};
        for (int[] branch : branches) {
            Rig rig = new Rig(branch[0], Asm.breakWith(2));
            CHECK.due("run into the slot", rig.core.run(5), 1);
            CHECK.due("BREAK", rig.core.end(), 6);
            CHECK.due("a slot", rig.core.state(2), 1);
            CHECK.due("code", rig.core.pass(), 2);
            CHECK.due("PC is what NEXT was", rig.core.state(0), branch[1]);
            CHECK.due("NEXT", rig.core.state(1), branch[1] + 4);
            CHECK.due("no slot", rig.core.state(2), 0);
            CHECK.due("jumps", rig.core.state(6), branch[2]);
            rig.core.put(branch[1], Asm.j(0));
            CHECK.due("a jump behind it is in no slot", rig.core.run(1), 1);
        }
    }

    /** The same words at memory's end, and with NEXT going round. */
    private static void atTheEdge() {
        CHECK.sentence(PLACE, "it goes on as if that were a step that does nothing");
        Rig last = new Rig().code(1020, Asm.syscall(6));
        last.core.go(1020);
        CHECK.due("SYSCALL as the last word", last.endAfter(1), 7);
        CHECK.due("code", last.core.pass(), 6);
        CHECK.due("PC", last.core.state(0), 1024);
        CHECK.due("no end yet", last.core.end(), 0);
        CHECK.due("then no step", last.endAfter(1), 1);
        Rig round = new Rig(Asm.jr(1), Asm.breakWith(0xFFFFF)).with(1, -4);
        CHECK.due("BREAK in a slot", round.endAfter(2), 6);
        CHECK.due("code", round.core.pass(), 0xFFFFF);
        CHECK.due("PC at the top", round.core.state(0), -4);
        CHECK.due("NEXT goes round", round.core.state(1), 0);
    }

    /** "a step that does nothing": it leaves all else, the LINK and what is UNKNOWN too. */
    private static void doesNothing() {
        CHECK.sentence(PLACE, "a step that does nothing");
        for (int word : new int[] {Asm.syscall(0xFFFFF), Asm.breakWith(0xFFFFF)}) {
            Rig rig = linked(word);
            CHECK.due("run", rig.core.run(9), 2);
            CHECK.due("code", rig.core.pass(), 0xFFFFF);
            Rig plain = linked(Asm.NOP).behind(3);
            CHECK.due("as behind SLL 0", rig.picture(), plain.picture());
            CHECK.due("the LINK is left", rig.core.run(1), 1);
        }
    }

    private static Rig linked(int word) {
        return new Rig(Asm.mul(2, 2, 2), Asm.ll(1, 0, Rig.DATA), word, Asm.sc(1, 0, Rig.DATA)).with(2, 3)
            .with(Rig.FRACTION, 5).with(Rig.CONDITIONS, 7).code(Rig.DATA, 9);
    }

    /** "IllegalStateException: there is none such.": a new object, one ahead of it, one behind pass or go. */
    private static void noneSuch() {
        CHECK.sentence(PLACE, "IllegalStateException: there is none such.");
        DelayCore fresh = new DelayCore(1024);
        CHECK.throwing("pass of a new one", IllegalStateException.class, fresh::pass);
        for (int word : new int[] {Asm.syscall(4), Asm.breakWith(4)}) {
            Rig rig = new Rig(word, word);
            CHECK.throwing("it is at PC, but was not done", IllegalStateException.class, rig.core::pass);
            CHECK.due("PC stays", rig.core.state(0), 0);
            CHECK.due("steps stay", rig.core.state(3), 0);
            rig.core.run(1);
            rig.core.pass();
            CHECK.throwing("a second pass, though another is at PC", IllegalStateException.class, rig.core::pass);
            CHECK.due("PC stays", rig.core.state(0), 4);
            rig.core.run(1);
            rig.core.go(4);
            CHECK.throwing("pass behind go", IllegalStateException.class, rig.core::pass);
            CHECK.due("it ends again", rig.core.run(1), 0);
            CHECK.due("and is passed", rig.core.pass(), 4);
        }
    }

    /** The same words: behind each other end. */
    private static void otherEnds() {
        CHECK.sentence(PLACE, "Behind a BREAK or SYSCALL");
        int[] words = {Asm.lw(1, 0, 2), Asm.sw(1, 0, 2), -1, Asm.immediate(8, 1, 2, 1),
            Asm.special(0b110100, 0, 0, 0, 5), 0, 0, Asm.jalr(1, 1)};
        for (int kind = 1; kind <= 8; kind++) {
            if (kind == 6 || kind == 7) {
                continue;
            }
            Rig rig = new Rig(Asm.breakWith(3), words[kind - 1]).with(1, Integer.MAX_VALUE).behind(1);
            rig.core.pass();
            CHECK.due("end", rig.endAfter(1), kind);
            String before = rig.picture();
            CHECK.throwing("pass of end " + kind, IllegalStateException.class, rig.core::pass);
            CHECK.due("end stays", rig.core.end(), kind);
            CHECK.due("nothing changed", rig.picture(), before);
        }
    }
}
