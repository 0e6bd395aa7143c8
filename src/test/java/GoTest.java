/** Promise 4, go: a method for each part of its sentences, with its words in its remark. */
public final class GoTest {
    private static final Check CHECK = new Check("GoTest");
    private static final String PLACE = "Promise 4";

    public static void main(String[] args) {
        pcAndNext();
        beyondMemory();
        noSlot();
        noLink();
        noEnd();
        whatPcWas();
        refused();
        restStays();
        CHECK.close();
    }

    /** "PC becomes an address, NEXT that and 4": which goes round at the top. */
    private static void pcAndNext() {
        CHECK.sentence(PLACE, "PC becomes an address, NEXT that and 4");
        DelayCore core = new DelayCore(1024);
        int[][] ways = {{100, 104}, {0, 4}, {1020, 1024}, {-4, 0}, {-8, -4}, {0x7FFFFFFC, Integer.MIN_VALUE},
            {Integer.MIN_VALUE, Integer.MIN_VALUE + 4}};
        for (int[] way : ways) {
            core.go(way[0]);
            CHECK.due("PC", core.state(0), way[0]);
            CHECK.due("NEXT", core.state(1), way[1]);
        }
    }

    /** "PC becomes an address": one need not be memory's; only a step there ends. */
    private static void beyondMemory() {
        CHECK.sentence(PLACE, "PC becomes an address");
        DelayCore core = new DelayCore(1024);
        for (int address : new int[] {1024, 1028, 0x7FFFFFFC, Integer.MIN_VALUE, -4}) {
            core.go(address);
            CHECK.due("no end yet", core.end(), 0);
            CHECK.due("no step there", core.run(1), 0);
            CHECK.due("its end", core.end(), 1);
        }
        core.go(1020);
        CHECK.due("the last word", core.run(1), 1);
    }

    /** "no slot": of a jump, of a branch that went, and of one that did not. */
    private static void noSlot() {
        CHECK.sentence(PLACE, "no slot, no LINK, no end");
        for (int word : new int[] {Asm.j(64), Asm.beq(0, 0, 15), Asm.bne(0, 0, 15)}) {
            Rig rig = new Rig(word, Asm.NOP).behind(1);
            CHECK.due("in a slot", rig.core.state(2), 1);
            CHECK.due("go out of it", rig.core.go(0), 4);
            CHECK.due("no slot", rig.core.state(2), 0);
            CHECK.due("NEXT is no target", rig.core.state(1), 4);
            CHECK.due("the branch is done again", rig.core.run(1), 1);
            CHECK.due("no end", rig.core.end(), 0);
            CHECK.due("to where it was", rig.core.go(4), 4);
            CHECK.due("no slot", rig.core.state(2), 0);
        }
    }

    /** "no LINK": also at the very address where PC was. */
    private static void noLink() {
        CHECK.sentence(PLACE, "no slot, no LINK, no end");
        Rig rig = new Rig(Asm.ll(1, 0, Rig.DATA), Asm.sc(1, 0, Rig.DATA)).behind(1);
        rig.core.go(4);
        CHECK.due("SC has no LINK", rig.endAfter(1), 8);
        rig.core.go(0);
        CHECK.due("LL and SC", rig.core.run(2), 2);
    }

    /** "no end": behind each of the eight. */
    private static void noEnd() {
        CHECK.sentence(PLACE, "no slot, no LINK, no end");
        int[] words = {Asm.lw(1, 0, 2), Asm.sw(1, 0, 2), -1, Asm.immediate(8, 1, 2, 1), Asm.special(52, 0, 0, 0, 0),
            Asm.breakWith(1), Asm.syscall(1), Asm.jalr(1, 1)};
        for (int kind = 1; kind <= 8; kind++) {
            Rig rig = new Rig(words[kind - 1], Asm.NOP).with(1, Integer.MAX_VALUE);
            CHECK.due("end", rig.endAfter(1), kind);
            CHECK.due("go", rig.core.go(4), 0);
            CHECK.due("no end", rig.core.end(), 0);
            CHECK.throwing("nothing to pass", IllegalStateException.class, rig.core::pass);
            CHECK.due("it runs", rig.core.run(1), 1);
        }
    }

    /** "what PC was": at first, in a slot, at no good address. */
    private static void whatPcWas() {
        CHECK.sentence(PLACE, "what PC was");
        Rig rig = new Rig(Asm.jr(1), Asm.NOP).with(1, -3);
        CHECK.due("of a new object", rig.core.go(0), 0);
        rig.core.run(1);
        CHECK.due("in a slot", rig.core.go(0), 4);
        rig.core.run(3);
        CHECK.due("behind an end at an odd address", rig.core.go(-4), -3);
        CHECK.due("the highest", rig.core.go(Integer.MIN_VALUE), -4);
        CHECK.due("the middle", rig.core.go(8), Integer.MIN_VALUE);
    }

    /** "IllegalArgumentException: it is no multiple of 4." */
    private static void refused() {
        CHECK.sentence(PLACE, "IllegalArgumentException: it is no multiple of 4.");
        Rig rig = new Rig(Asm.ll(1, 0, Rig.DATA), Asm.j(64), Asm.syscall(5)).code(64, Asm.sc(1, 0, Rig.DATA)).behind(3);
        for (int bad : new int[] {1, 2, 3, 5, 6, 7, 101, 1023, 1025, -1, -2, -3, -5, Integer.MAX_VALUE,
            Integer.MAX_VALUE - 1, Integer.MIN_VALUE + 1, Integer.MIN_VALUE + 2}) {
            CHECK.throwing("go " + bad, IllegalArgumentException.class, () -> rig.core.go(bad));
        }
        CHECK.due("PC stays", rig.core.state(0), 8);
        CHECK.due("NEXT stays", rig.core.state(1), 64);
        CHECK.due("the slot stays", rig.core.state(2), 1);
        CHECK.due("the end stays", rig.core.end(), 7);
        CHECK.due("it can be passed", rig.core.pass(), 5);
        CHECK.due("the LINK stays", rig.core.run(1), 1);
    }

    /** "no slot, no LINK, no end": and all else is left, the counts "of all times" too (promise 10). */
    private static void restStays() {
        CHECK.sentence("Promise 10", "of all times");
        Rig rig = new Rig(Asm.lw(1, 0, Rig.DATA), Asm.sw(1, 0, Rig.DATA), Asm.bnel(0, 0, 1), Asm.NOP, Asm.j(0))
            .code(Rig.DATA, 3).behind(4);
        rig.core.go(0);
        for (int i = 3; i < 8; i++) {
            CHECK.due("count " + i, rig.core.state(i), i == 3 ? 4 : 1);
        }
        CHECK.due("register", rig.core.get(1), 3);
        CHECK.due("memory", rig.core.word(Rig.DATA), 3);
        Rig unknown = new Rig(Asm.mul(1, 1, 1)).behind(1);
        unknown.core.go(0);
        CHECK.throwing("HI stays UNKNOWN", IllegalStateException.class, () -> unknown.core.get(Rig.HI));
    }
}
