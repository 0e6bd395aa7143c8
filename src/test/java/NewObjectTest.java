/** Promise 1, a new object: a method for each part of its sentence, with its words in its remark. */
public final class NewObjectTest {
    private static final Check CHECK = new Check("NewObjectTest");
    private static final String PLACE = "Promise 1";

    public static void main(String[] args) {
        soManyBytes();
        tooSmall();
        tooLarge();
        cutDown();
        nothingYet();
        CHECK.close();
    }

    /** The last word is there and the one behind it is not, and the same of the last byte and double. */
    private static void sized(int asked, int size) {
        DelayCore core = new DelayCore(asked);
        CHECK.due("last word of " + asked, core.put(size - 4, 7), 0);
        CHECK.due("last word of " + asked, core.word(size - 4), 7);
        CHECK.throwing("word behind " + asked, IllegalArgumentException.class, () -> core.word(size));
        CHECK.throwing("put behind " + asked, IllegalArgumentException.class, () -> core.put(size, 1));
        int[] words = {Asm.access(Asm.LBU, 2, 1, -1), Asm.access(Asm.LDC1, 2, 1, -8), Asm.access(Asm.LBU, 2, 1, 0)};
        for (int i = 0; i < words.length; i++) {
            core.put(4 * i, words[i]);
        }
        core.set(1, size);
        CHECK.due("last byte and double of " + asked, core.run(3), 2);
        CHECK.due("byte behind " + asked, core.end(), 1);
        CHECK.due("last byte", core.get(2), 7);
    }

    /** "A machine with so many bytes". */
    private static void soManyBytes() {
        CHECK.sentence(PLACE, "A machine with so many bytes");
        for (int size : new int[] {1024, 1032, 2000, 4096, 65_536, 262_136, 262_144}) {
            sized(size, size);
        }
    }

    /** "below 1,024 it is 1,024". */
    private static void tooSmall() {
        CHECK.sentence(PLACE, "below 1,024 it is 1,024");
        for (int size : new int[] {1023, 1017, 1016, 8, 7, 1, 0, -1, -8, -1024, -262_144, Integer.MIN_VALUE + 1,
            Integer.MIN_VALUE}) {
            sized(size, 1024);
        }
    }

    /** "above 262,144 that". */
    private static void tooLarge() {
        CHECK.sentence(PLACE, "above 262,144 that");
        for (int size : new int[] {262_145, 262_151, 262_152, 262_153, 524_288, 1 << 30, Integer.MAX_VALUE - 7,
            Integer.MAX_VALUE}) {
            sized(size, 262_144);
        }
    }

    /** "and it is cut down to a multiple of 8". */
    private static void cutDown() {
        CHECK.sentence(PLACE, "and it is cut down to a multiple of 8");
        int[][] sizes = {{1025, 1024}, {1028, 1024}, {1031, 1024}, {1033, 1032}, {1039, 1032}, {1040, 1040}, {4095,
            4088},
            {262_137, 262_136}, {262_140, 262_136}, {262_143, 262_136}};
        for (int[] size : sizes) {
            sized(size[0], size[1]);
        }
    }

    /** Terms: "All is 0 at first, but NEXT 4." */
    private static void nothingYet() {
        CHECK.sentence("Terms", "All is 0 at first, but NEXT 4.");
        DelayCore core = new DelayCore(1024);
        for (int i = 0; i < 8; i++) {
            CHECK.due("state " + i, core.state(i), i == 1 ? 4 : 0);
        }
        for (int i = 0; i <= 66; i++) {
            CHECK.due("register " + i, core.get(i), 0);
        }
        for (int i = 0; i < 256; i++) {
            CHECK.due("word " + i, core.word(4 * i), 0);
        }
        CHECK.due("end", core.end(), 0);
    }
}
