/** Promises 2 and 3, put and word: a method for each sentence, with its words in its remark. */
public final class PutWordTest {
    private static final Check CHECK = new Check("PutWordTest");
    /** Of 2,000 bytes: no multiple of 4, or not all four bytes memory's, or with the highest bit. */
    private static final int[] BAD = {1, 2, 3, 5, 1994, 1997, 1998, 1999, 2000, 2001, 2004, 262_144, 0x7FFFFFFC,
        Integer.MAX_VALUE, Integer.MIN_VALUE, Integer.MIN_VALUE + 4, -2000, -8, -4, -3, -2, -1};

    public static void main(String[] args) {
        theOneBefore();
        putRefused();
        putLeavesTheRest();
        wordOfMemory();
        wordRefused();
        CHECK.close();
    }

    /** Promise 2: "A word comes into memory: the one before." The first, the last, and over itself. */
    private static void theOneBefore() {
        CHECK.sentence("Promise 2", "A word comes into memory: the one before.");
        DelayCore core = new DelayCore(2000);
        for (int address : new int[] {0, 4, 1000, 1992, 1996}) {
            CHECK.due("first put at " + address, core.put(address, 0x12345678), 0);
            CHECK.due("second put", core.put(address, -1), 0x12345678);
            CHECK.due("third put", core.put(address, Integer.MIN_VALUE), -1);
            CHECK.due("what is there", core.word(address), Integer.MIN_VALUE);
        }
        CHECK.due("a neighbour", core.word(8), 0);
        CHECK.due("a neighbour", core.word(1004), 0);
        CHECK.due("a neighbour", core.word(1988), 0);
        Rig stored = new Rig(Asm.access(Asm.SB, 1, 0, Rig.DATA + 2)).with(1, 0x55).behind(1);
        CHECK.due("what a step stored is the one before", stored.core.put(Rig.DATA, 3), 0x5500);
    }

    /** Promise 2: "IllegalArgumentException: its address is not good." */
    private static void putRefused() {
        CHECK.sentence("Promise 2", "IllegalArgumentException: its address is not good.");
        DelayCore core = new DelayCore(2000);
        core.put(0, 6);
        core.put(1996, 7);
        for (int address : BAD) {
            CHECK.throwing("put " + address, IllegalArgumentException.class, () -> core.put(address, 1));
        }
        CHECK.due("first word stays", core.word(0), 6);
        CHECK.due("last word stays", core.word(1996), 7);
        for (int address = 4; address < 1600; address += 4) {
            CHECK.due("word " + address + " stays", core.word(address), 0);
        }
    }

    /** Promise 2: "A word comes into memory": and nothing else becomes another, nor does an end or a LINK go. */
    private static void putLeavesTheRest() {
        CHECK.sentence("Promise 2", "A word comes into memory");
        Rig rig = new Rig(Asm.ll(2, 0, Rig.DATA), Asm.breakWith(3), Asm.sc(2, 0, Rig.DATA)).behind(5);
        String before = rig.picture();
        rig.core.put(4, Asm.syscall(9));
        rig.core.put(Rig.DATA - 4, 9);
        CHECK.due("end stays", rig.core.end(), 6);
        CHECK.due("memory alone", rig.picture(), before);
        CHECK.due("code of the BREAK that was done", rig.core.pass(), 3);
        rig.core.put(Rig.DATA, 8);
        CHECK.due("the LINK stays", rig.core.run(1), 1);
        Rig code = new Rig(Asm.breakWith(1), Asm.breakWith(2));
        code.core.put(0, Asm.addiu(1, 0, 5));
        CHECK.due("what is put is done", code.core.run(9), 1);
        CHECK.due("its result", code.core.get(1), 5);
    }

    /** Promise 3: "A word of memory.": the highest byte first, whoever wrote it; asking changes nothing. */
    private static void wordOfMemory() {
        CHECK.sentence("Promise 3", "A word of memory.");
        Rig rig = new Rig(Asm.access(Asm.SB, 1, 0, Rig.DATA), Asm.access(Asm.SH, 1, 0, Rig.DATA + 2),
            Asm.sw(1, 0, 1020)).with(1, 0x01020384);
        CHECK.due("at first", rig.core.word(Rig.DATA), 0);
        CHECK.due("stores", rig.core.run(3), 3);
        CHECK.due("a byte and a half", rig.core.word(Rig.DATA), 0x84000384);
        CHECK.due("the last word", rig.core.word(1020), 0x01020384);
        CHECK.due("again", rig.core.word(1020), 0x01020384);
        CHECK.due("the first word", rig.core.word(0), Asm.access(Asm.SB, 1, 0, Rig.DATA));
        CHECK.due("no load is counted", rig.core.state(4), 0);
        Rig read = new Rig(Asm.access(Asm.LBU, 1, 0, Rig.DATA), Asm.access(Asm.LBU, 2, 0, Rig.DATA + 3))
            .code(Rig.DATA, 0x11223344).behind(2);
        CHECK.due("highest byte", read.core.get(1), 0x11);
        CHECK.due("lowest byte", read.core.get(2), 0x44);
    }

    /** Promise 3: "IllegalArgumentException: likewise." */
    private static void wordRefused() {
        CHECK.sentence("Promise 3", "IllegalArgumentException: likewise.");
        DelayCore core = new DelayCore(2000);
        for (int address : BAD) {
            CHECK.throwing("word " + address, IllegalArgumentException.class, () -> core.word(address));
        }
        CHECK.due("the last good one", core.word(1996), 0);
    }
}
