import java.util.Random;

/**
 * Any calls on any words: a call throws just what the document says, a step that ends changes
 * nothing, counts agree, and two objects answer the same.
 */
public final class AnythingTest {
    private static final Check CHECK = new Check("AnythingTest");
    private static final Random RANDOM = new Random(4);
    private static final int[] OPCODES = {0, 0, 0, 1, 2, 4, 5, 8, 15, 17, 17, 17, 17, 20, 21, 28, 28, 32, 33, 34, 35,
        36, 37, 38, 40, 41, 42, 43, 46, 48, 49, 51, 53, 56, 57, 61};
    private static final int[] FORMATS = {0, 4, 8, 16, 16, 17, 17, 20};
    private static final int[] ENDS = new int[9];

    public static void main(String[] args) {
        for (int i = 0; i < 30_000; i++) {
            oneStep();
        }
        for (int i = 0; i < 3_000; i++) {
            manyCalls();
        }
        for (int i = 0; i < ENDS.length; i++) {
            CHECK.due("end " + i + " was met", ENDS[i] > 0 ? 1 : 0, 1);
        }
        CHECK.close();
    }

    private static int someWord() {
        int word = RANDOM.nextInt();
        if (RANDOM.nextInt(8) == 0) {
            return word;
        }
        int opcode = OPCODES[RANDOM.nextInt(OPCODES.length)];
        word = word & 0x03FFFFFF | opcode << 26;
        if (opcode == 17) {
            word = word & ~(31 << 21) | FORMATS[RANDOM.nextInt(FORMATS.length)] << 21;
        }
        if (opcode >= 32 && RANDOM.nextInt(4) != 0) {
            word = word & 0xFFFF003F;
        }
        return word;
    }

    private static int someValue() {
        switch (RANDOM.nextInt(4)) {
            case 0:
                return RANDOM.nextInt();
            case 1:
                return Rig.DATA + 4 * RANDOM.nextInt(14);
            case 2:
                return RANDOM.nextInt(1100) - 30;
            default:
                return RANDOM.nextInt(5) - 2;
        }
    }

    private static void oneStep() {
        int word = someWord();
        boolean inSlot = RANDOM.nextInt(4) == 0;
        Rig rig = inSlot ? new Rig(Asm.j(64), word) : new Rig(word);
        for (int i = 1; i <= 66; i++) {
            rig.core.set(i, someValue());
        }
        if (inSlot) {
            rig.core.run(1);
        }
        String before = rig.picture();
        int steps = rig.core.state(3);
        int done = rig.core.run(1);
        int end = rig.core.end();
        String what = "word " + Integer.toHexString(word);
        CHECK.due(what + ": done", done, end == 0 ? 1 : 0);
        CHECK.due(what + ": steps", rig.core.state(3), steps + done);
        CHECK.due(what + ": end is known", end >= 0 && end <= 8 ? 1 : 0, 1);
        if (end != 0) {
            CHECK.due(what + ": nothing changed", rig.picture(), before);
        }
        ENDS[end]++;
    }

    private static void manyCalls() {
        int size = RANDOM.nextInt(3000);
        DelayCore one = new DelayCore(size);
        DelayCore other = new DelayCore(size);
        for (int i = 0; i < 200; i++) {
            int call = RANDOM.nextInt(12);
            int a = RANDOM.nextInt(3) == 0 ? RANDOM.nextInt() : 4 * RANDOM.nextInt(64)
                + (RANDOM.nextInt(20) == 0 ? 1 : 0);
            int b = RANDOM.nextInt(3) == 0 ? someValue() : someWord();
            CHECK.due("call " + call, told(other, call, a, b), told(one, call, a, b));
        }
    }

    private static String told(DelayCore core, int call, int a, int b) {
        try {
            return Integer.toString(answer(core, call, a, b));
        } catch (IllegalArgumentException | IllegalStateException | IndexOutOfBoundsException e) {
            boolean declared = e.getClass() == IllegalArgumentException.class
                || e.getClass() == IllegalStateException.class
                || e.getClass() == IndexOutOfBoundsException.class;
            CHECK.due("declared " + e, declared ? 1 : 0, 1);
            return e.getClass().getName();
        }
    }

    private static int answer(DelayCore core, int call, int a, int b) {
        switch (call) {
            case 0: case 1: case 2: case 3:
                return core.put(a, b);
            case 4:
                return core.word(a);
            case 5:
                return core.go(a);
            case 6:
                return core.set(a % 70, b);
            case 7:
                return core.get(a % 70);
            case 8: case 9:
                return core.run(a & 63);
            case 10:
                return core.pass();
            default:
                return core.state(a & 15) + core.end();
        }
    }
}
