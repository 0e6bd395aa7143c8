import java.util.Random;

/** Terms, loads and stores: the list of the document, against a row of bytes. */
public final class LoadStoreTest {
    private static final Check CHECK = new Check("LoadStoreTest");
    private static final Random RANDOM = new Random(2);
    private static final String TERMS = "Terms, INSTRUCTIONS";
    private static final int BASE = Rig.DATA;

    public static void main(String[] args) {
        CHECK.sentence(TERMS, "LB LBU LH LHU LW LWL LWR SB SH SW SWL SWR LL SC, LWC1 SWC1 LDC1 SDC1");
        for (int round = 0; round < 40; round++) {
            for (int at = 0; at < 32; at++) {
                loads(at);
                stores(at);
            }
        }
        links();
        ownCode();
        CHECK.close();
    }

    private static byte[] fill(Rig rig) {
        byte[] bytes = new byte[32];
        RANDOM.nextBytes(bytes);
        for (int i = 0; i < 32; i += 4) {
            rig.core.put(BASE + i, (int) big(bytes, i, 4));
        }
        return bytes;
    }

    private static long big(byte[] bytes, int at, int count) {
        long v = 0;
        for (int i = 0; i < count; i++) {
            v = v << 8 | bytes[at + i] & 255;
        }
        return v;
    }

    private static int access(int opcode, int at) {
        return Asm.immediate(opcode, 1, 2, at - 100);
    }

    private static Rig rig(int opcode, int at) {
        return new Rig(access(opcode, at)).with(1, BASE + 100).with(2, RANDOM.nextInt())
            .with(Rig.FRACTION + 2, RANDOM.nextInt()).with(Rig.FRACTION + 3, RANDOM.nextInt());
    }

    private static void loads(int at) {
        load(32, at, 1, true);
        load(36, at, 1, false);
        if (at % 2 == 0) {
            load(33, at, 2, true);
            load(37, at, 2, false);
        }
        if (at % 4 == 0) {
            load(35, at, 4, true);
            load(48, at, 4, true);
            Rig single = rig(49, at);
            byte[] bytes = fill(single);
            CHECK.due("LWC1 runs", single.core.run(1), 1);
            CHECK.due("LWC1", single.core.get(Rig.FRACTION + 2), (int) big(bytes, at, 4));
        }
        if (at % 8 == 0) {
            Rig wide = rig(53, at);
            byte[] bytes = fill(wide);
            CHECK.due("LDC1 runs", wide.core.run(1), 1);
            CHECK.due("LDC1", wide.doubleIn(2), big(bytes, at, 8));
        }
        loadPart(34, at);
        loadPart(38, at);
    }

    private static void load(int opcode, int at, int count, boolean signed) {
        Rig rig = rig(opcode, at);
        byte[] bytes = fill(rig);
        long v = big(bytes, at, count);
        int free = 64 - 8 * count;
        CHECK.due("load runs", rig.core.run(1), 1);
        CHECK.due("load " + opcode + " at " + at, rig.core.get(2), (int) (signed ? v << free >> free : v));
    }

    /** LWL fills from the highest byte on up to the word's end, LWR from the lowest down to its start. */
    private static void loadPart(int opcode, int at) {
        Rig rig = rig(opcode, at);
        byte[] bytes = fill(rig);
        byte[] register = bytesOf(rig.core.get(2));
        int first = at & -4;
        if (opcode == 34) {
            for (int from = at, to = 0; from < first + 4; from++, to++) {
                register[to] = bytes[from];
            }
        } else {
            for (int from = at, to = 3; from >= first; from--, to--) {
                register[to] = bytes[from];
            }
        }
        CHECK.due("load runs", rig.core.run(1), 1);
        CHECK.due("load " + opcode + " at " + at, rig.core.get(2), (int) big(register, 0, 4));
    }

    private static byte[] bytesOf(int v) {
        return new byte[] {(byte) (v >> 24), (byte) (v >> 16), (byte) (v >> 8), (byte) v};
    }

    private static void stores(int at) {
        store(40, at, 1);
        if (at % 2 == 0) {
            store(41, at, 2);
        }
        if (at % 4 == 0) {
            store(43, at, 4);
            store(57, at, 4);
        }
        if (at % 8 == 0) {
            store(61, at, 8);
        }
        store(42, at, 4 - (at & 3));
        store(46, at, 1);
    }

    private static void store(int opcode, int at, int count) {
        Rig rig = rig(opcode, at);
        byte[] bytes = fill(rig);
        byte[] register = bytesOf(rig.core.get(opcode == 57 ? Rig.FRACTION + 2 : 2));
        if (opcode == 61) {
            byte[] high = bytesOf(rig.core.get(Rig.FRACTION + 3));
            byte[] low = bytesOf(rig.core.get(Rig.FRACTION + 2));
            System.arraycopy(high, 0, bytes, at, 4);
            System.arraycopy(low, 0, bytes, at + 4, 4);
        } else if (opcode == 42) {
            System.arraycopy(register, 0, bytes, at, count);
        } else if (opcode == 46) {
            System.arraycopy(register, 3 - (at & 3), bytes, at & -4, (at & 3) + 1);
        } else {
            System.arraycopy(register, 4 - count, bytes, at, count);
        }
        CHECK.due("store runs", rig.core.run(1), 1);
        for (int i = 0; i < 32; i += 4) {
            CHECK.due("store " + opcode + " at " + at, rig.core.word(BASE + i), (int) big(bytes, i, 4));
        }
        CHECK.due("word before", rig.core.word(BASE - 4), 0);
        CHECK.due("word behind", rig.core.word(BASE + 32), 0);
    }

    private static void links() {
        CHECK.sentence(TERMS, "LL makes a LINK with its address; SC stores and puts 1 into its register");
        Rig rig = new Rig(Asm.ll(1, 0, BASE), Asm.addiu(1, 1, 1), Asm.sw(5, 0, BASE + 4), Asm.sc(1, 0, BASE),
            Asm.sc(1, 0, BASE));
        rig.core.put(BASE, 41);
        CHECK.due("LL to SC", rig.core.run(9), 4);
        CHECK.due("SC stores", rig.core.word(BASE), 42);
        CHECK.due("and puts 1", rig.core.get(1), 1);
        CHECK.due("then there is no LINK", rig.core.end(), 8);
        Rig newer = new Rig(Asm.ll(1, 0, BASE), Asm.ll(1, 0, BASE + 4), Asm.sc(2, 0, BASE + 4)).with(2, 9);
        CHECK.due("the newer LL", newer.core.run(3), 3);
        CHECK.due("stored", newer.core.word(BASE + 4), 9);
        Rig older = new Rig(Asm.ll(1, 0, BASE), Asm.ll(1, 0, BASE + 4), Asm.sc(2, 0, BASE));
        CHECK.due("the older LL", older.endAfter(3), 8);
        Rig stored = new Rig(Asm.ll(1, 0, BASE), Asm.sw(5, 0, BASE), Asm.sc(1, 0, BASE)).with(5, 8);
        CHECK.due("a store leaves the LINK", stored.core.run(3), 3);
        CHECK.due("SC is last", stored.core.word(BASE), 0);
        Rig fetched = new Rig(Asm.ll(1, 2, 0), Asm.sc(1, 3, 4)).with(2, BASE).with(3, BASE - 4);
        CHECK.due("the address counts, not its parts", fetched.core.run(2), 2);
    }

    /** What is stored is what is done next. */
    private static void ownCode() {
        CHECK.sentence("Terms, STEP", "A STEP does the word at PC.");
        Rig rig = new Rig(Asm.sw(1, 0, 4), Asm.breakWith(0), Asm.breakWith(1)).with(1, Asm.addiu(2, 0, 77));
        CHECK.due("run", rig.core.run(9), 2);
        CHECK.due("done", rig.core.get(2), 77);
    }
}
