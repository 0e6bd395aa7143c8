/** Promise 1. */
public final class NewObjectTest {
    public static void main(String[] args) {
        Check check = new Check("NewObjectTest");
        int[][] sizes = {
            {Integer.MIN_VALUE, 1024}, {-1, 1024}, {0, 1024}, {1023, 1024}, {1024, 1024}, {1025, 1024},
            {1031, 1024}, {1032, 1032}, {1039, 1032}, {2000, 2000}, {4095, 4088}, {4096, 4096},
            {262_143, 262_136}, {262_144, 262_144}, {262_145, 262_144}, {Integer.MAX_VALUE, 262_144}};
        for (int[] size : sizes) {
            DelayCore core = new DelayCore(size[0]);
            check.due("last word of " + size[0], core.word(size[1] - 4), 0);
            check.throwing("word behind " + size[0], IllegalArgumentException.class, () -> core.word(size[1]));
        }
        DelayCore core = new DelayCore(1024);
        for (int i = 0; i < 8; i++) {
            check.due("state " + i, core.state(i), i == 1 ? 4 : 0);
        }
        for (int i = 0; i <= 66; i++) {
            check.due("register " + i, core.get(i), 0);
        }
        for (int i = 0; i < 256; i++) {
            check.due("word " + i, core.word(4 * i), 0);
        }
        check.due("end", core.end(), 0);
        check.close();
    }
}
