/** Promises 7 and 8, run and end: a method for each part of their sentences, with its words in its remark. */
public final class RunEndTest {
    private static final Check CHECK = new Check("RunEndTest");
    private static final int MAX = Integer.MAX_VALUE;
    private static final int MIN = Integer.MIN_VALUE;
    /** One for each end, from 1 on, with the highest number in register 1. */
    private static final int[] WORDS = {Asm.lw(1, 0, 2), Asm.sw(1, 0, 2), -1, Asm.immediate(8, 1, 2, 1),
        Asm.special(52, 0, 0, 0, 0), Asm.breakWith(1), Asm.syscall(1), Asm.jalr(1, 1)};

    public static void main(String[] args) {
        atMost();
        mostAtOnce();
        untilOneEnds();
        oneThatEndsIsNone();
        refused();
        endedBefore();
        firstOneTold();
        howItEnded();
        endStays();
        CHECK.close();
    }

    /** Promise 7: "At most n steps": 1, and fewer than would be there. */
    private static void atMost() {
        CHECK.sentence("Promise 7", "At most n steps, until one ends: how many were done");
        Rig rig = new Rig(Asm.addiu(1, 1, 1), Asm.addiu(1, 1, 1), Asm.addiu(1, 1, 1), Asm.breakWith(0));
        CHECK.due("one", rig.core.run(1), 1);
        CHECK.due("register", rig.core.get(1), 1);
        CHECK.due("no end", rig.core.end(), 0);
        CHECK.due("two", rig.core.run(2), 2);
        CHECK.due("no end before it is done", rig.core.end(), 0);
        CHECK.due("none", rig.core.run(2), 0);
        CHECK.due("BREAK", rig.core.end(), 6);
        CHECK.due("register", rig.core.get(1), 3);
        Rig passedOver = new Rig(Asm.bnel(0, 0, 1), Asm.NOP, Asm.bnel(0, 0, 1), Asm.NOP, Asm.breakWith(0));
        CHECK.due("a slot passed over is no step", passedOver.core.run(9), 2);
        CHECK.due("steps", passedOver.core.state(3), 2);
    }

    /** Promise 7: "n is not 1 .. 10,000": all 10,000 are done, in a row and in a loop. */
    private static void mostAtOnce() {
        CHECK.sentence("Promise 7", "At most n steps");
        DelayCore core = new DelayCore(262_144);
        CHECK.due("most steps", core.run(10_000), 10_000);
        CHECK.due("PC", core.state(0), 40_000);
        CHECK.due("one less", core.run(9_999), 9_999);
        CHECK.due("PC", core.state(0), 79_996);
        CHECK.due("steps", core.state(3), 19_999);
        Rig loop = new Rig(Asm.beq(0, 0, -1), Asm.addiu(1, 1, 1));
        CHECK.due("a loop without an end", loop.core.run(10_000), 10_000);
        CHECK.due("its slots", loop.core.get(1), 5_000);
        CHECK.due("no end", loop.core.end(), 0);
    }

    /** Promise 7: "until one ends": as the last of n, and just behind the last of n. */
    private static void untilOneEnds() {
        CHECK.sentence("Promise 7", "until one ends");
        for (int n : new int[] {1, 2, 100, 254}) {
            for (int word : new int[] {-1, Asm.breakWith(3), Asm.sw(0, 0, 1)}) {
                Rig asLast = new Rig().code(4 * (n - 1), word);
                CHECK.due("as the last of " + n, asLast.core.run(n), n - 1);
                CHECK.due("an end", asLast.core.end() != 0 ? 1 : 0, 1);
                Rig behind = new Rig().code(4 * n, word);
                CHECK.due("behind the last of " + n, behind.core.run(n), n);
                CHECK.due("no end yet", behind.core.end(), 0);
                CHECK.due("then none", behind.core.run(n), 0);
                CHECK.due("an end", behind.core.end() != 0 ? 1 : 0, 1);
            }
        }
        DelayCore core = new DelayCore(262_144);
        core.go(262_140);
        CHECK.due("one step is left in memory", core.run(10_000), 1);
        CHECK.due("end", core.end(), 1);
        CHECK.due("PC", core.state(0), 262_144);
        core.go(262_144 - 40_000);
        CHECK.due("as many as are left", core.run(10_000), 10_000);
        CHECK.due("no end yet", core.end(), 0);
        CHECK.due("then none", core.run(10_000), 0);
    }

    /** Promise 7: "(one that ends is none)": of each end, as the answer and as a count. */
    private static void oneThatEndsIsNone() {
        CHECK.sentence("Promise 7", "how many were done (one that ends is none)");
        for (int kind = 1; kind <= 8; kind++) {
            Rig rig = new Rig(WORDS[kind - 1]).with(1, MAX);
            CHECK.due("the first ends by " + kind, rig.core.run(10_000), 0);
            CHECK.due("end", rig.core.end(), kind);
            CHECK.due("steps", rig.core.state(3), 0);
            Rig third = new Rig(Asm.NOP, Asm.NOP, WORDS[kind - 1]).with(1, MAX);
            CHECK.due("the third ends by " + kind, third.core.run(10_000), 2);
            CHECK.due("steps", third.core.state(3), 2);
        }
    }

    /** Promise 7: "IllegalArgumentException: n is not 1 .. 10,000". */
    private static void refused() {
        CHECK.sentence("Promise 7", "IllegalArgumentException: n is not 1 .. 10,000");
        Rig rig = new Rig(Asm.addiu(1, 1, 1));
        for (int bad : new int[] {0, -1, -10_000, 10_001, 10_002, 20_000, MAX, MIN, MIN + 1}) {
            CHECK.throwing("run " + bad, IllegalArgumentException.class, () -> rig.core.run(bad));
        }
        CHECK.due("nothing done", rig.core.state(3), 0);
        CHECK.due("PC", rig.core.state(0), 0);
        CHECK.due("register", rig.core.get(1), 0);
        CHECK.due("end", rig.core.end(), 0);
    }

    /** Promise 7: "IllegalStateException: it has ended before.": behind each end, until go or pass. */
    private static void endedBefore() {
        CHECK.sentence("Promise 7", "IllegalStateException: it has ended before.");
        for (int kind = 1; kind <= 8; kind++) {
            Rig rig = new Rig(WORDS[kind - 1], Asm.NOP).with(1, MAX).behind(1);
            for (int n : new int[] {1, 2, 10_000}) {
                CHECK.throwing("run behind end " + kind, IllegalStateException.class, () -> rig.core.run(n));
            }
            rig.core.put(0, Asm.NOP);
            rig.core.set(1, 0);
            CHECK.throwing("its cause being gone", IllegalStateException.class, () -> rig.core.run(1));
            CHECK.due("end stays", rig.core.end(), kind);
            CHECK.due("PC stays", rig.core.state(0), 0);
            CHECK.due("steps stay", rig.core.state(3), 0);
            if (kind == 6 || kind == 7) {
                rig.core.pass();
            } else {
                rig.core.go(4);
            }
            CHECK.due("then it runs", rig.core.run(1), 1);
        }
    }

    /** Terms: "Of several exceptions the first one told is thrown": a wrong n behind an end. */
    private static void firstOneTold() {
        CHECK.sentence("Terms", "Of several exceptions the first one told is thrown");
        for (int kind = 1; kind <= 8; kind++) {
            Rig rig = new Rig(WORDS[kind - 1]).with(1, MAX).behind(1);
            for (int bad : new int[] {0, -1, 10_001, MAX, MIN}) {
                CHECK.throwing("run " + bad + " behind end " + kind, IllegalArgumentException.class,
                    () -> rig.core.run(bad));
            }
        }
    }

    /** Promise 8: "How it ended; 0 when it did not." */
    private static void howItEnded() {
        CHECK.sentence("Promise 8", "How it ended; 0 when it did not.");
        CHECK.due("a new object", new DelayCore(1024).end(), 0);
        for (int kind = 1; kind <= 8; kind++) {
            Rig rig = new Rig(Asm.NOP, WORDS[kind - 1]).with(1, MAX).behind(1);
            CHECK.due("ahead of it", rig.core.end(), 0);
            rig.core.run(1);
            CHECK.due("behind it", rig.core.end(), kind);
        }
    }

    /** Promise 8, the same words: no other call than go and pass takes it away, and each new one takes its place. */
    private static void endStays() {
        CHECK.sentence("Promise 8", "How it ended");
        for (int kind = 1; kind <= 8; kind++) {
            Rig rig = new Rig(WORDS[kind - 1], -1).with(1, MAX).behind(1);
            rig.core.put(0, Asm.NOP);
            rig.core.word(0);
            rig.core.set(1, 1);
            rig.core.get(1);
            rig.core.state(0);
            CHECK.due("it stays", rig.core.end(), kind);
            CHECK.due("asking leaves it", rig.core.end(), kind);
            rig.core.go(4);
            CHECK.due("go", rig.core.end(), 0);
            CHECK.due("another one", rig.endAfter(1), 3);
        }
    }
}
