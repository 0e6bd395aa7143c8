/** Promises 2 and 3. */
public final class PutWordTest {
    public static void main(String[] args) {
        Check check = new Check("PutWordTest");
        DelayCore core = new DelayCore(2000);
        check.due("first put", core.put(0, 0x12345678), 0);
        check.due("second put", core.put(0, -1), 0x12345678);
        check.due("word", core.word(0), -1);
        check.due("its neighbour", core.word(4), 0);
        check.due("last put", core.put(1996, 7), 0);
        check.due("last word", core.word(1996), 7);
        int[] bad = {1, 2, 3, 1994, 1998, 1999, 2000, 2004, 262_144, Integer.MAX_VALUE, 0x7FFFFFFC,
            Integer.MIN_VALUE, -1, -4, -8};
        for (int address : bad) {
            check.throwing("put " + address, IllegalArgumentException.class, () -> core.put(address, 1));
            check.throwing("word " + address, IllegalArgumentException.class, () -> core.word(address));
        }
        check.due("unchanged first", core.word(0), -1);
        check.due("unchanged last", core.word(1996), 7);
        changesNothingElse(check);
        bytesAreHighestFirst(check);
        check.close();
    }

    private static void changesNothingElse(Check check) {
        Rig rig = new Rig(Asm.ll(2, 0, Rig.DATA), Asm.breakWith(3));
        rig.endAfter(5);
        String before = rig.picture();
        rig.core.put(4, Asm.syscall(9));
        check.due("end stays", rig.core.end(), 6);
        check.due("put changes memory alone", rig.picture(), before);
        check.due("code of the BREAK that was done", rig.core.pass(), 3);
    }

    private static void bytesAreHighestFirst(Check check) {
        Rig rig = new Rig(Asm.immediate(0b100100, 0, 1, Rig.DATA), Asm.immediate(0b100100, 0, 2, Rig.DATA + 3));
        rig.core.put(Rig.DATA, 0x11223344);
        rig.core.run(2);
        check.due("highest byte", rig.core.get(1), 0x11);
        check.due("lowest byte", rig.core.get(2), 0x44);
    }
}
