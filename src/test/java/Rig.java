/** One object with 1,024 bytes, code from 0 on and data from DATA on; stays below 512 calls. */
final class Rig {
    static final int DATA = 512;
    static final int DATA_WORDS = 16;
    static final int HI = 32;
    static final int LO = 33;
    static final int FRACTION = 34;
    static final int CONDITIONS = 66;

    private static final int SIZE = 1024;

    final DelayCore core = new DelayCore(SIZE);

    Rig(int... code) {
        this.code(0, code);
    }

    Rig code(int address, int... words) {
        for (int i = 0; i < words.length; i++) {
            core.put(address + 4 * i, words[i]);
        }
        return this;
    }

    /** So many steps are done ahead of what is asked. */
    Rig behind(int steps) {
        core.run(steps);
        return this;
    }

    Rig with(int which, int v) {
        core.set(which, v);
        return this;
    }

    Rig withDouble(int fraction, long bits) {
        core.set(FRACTION + fraction, (int) bits);
        core.set(FRACTION + fraction + 1, (int) (bits >>> 32));
        return this;
    }

    long doubleIn(int fraction) {
        return (long) core.get(FRACTION + fraction + 1) << 32 | core.get(FRACTION + fraction) & 0xFFFFFFFFL;
    }

    /** At most n steps; how it ended. */
    int endAfter(int n) {
        core.run(n);
        return core.end();
    }

    /** What a step mostly changes, but how it ended; some 91 calls. */
    String picture() {
        return picture(DATA, DATA_WORDS);
    }

    /** All but how it ended; 331 calls, so that an object can be pictured once. */
    String wholePicture() {
        return picture(0, SIZE / 4);
    }

    private String picture(int from, int words) {
        StringBuilder all = new StringBuilder();
        for (int i = 0; i < 8; i++) {
            all.append('s').append(i).append('=').append(core.state(i)).append(' ');
        }
        for (int i = 0; i <= CONDITIONS; i++) {
            all.append('r').append(i).append('=').append(register(i)).append(' ');
        }
        for (int i = 0; i < words; i++) {
            all.append('m').append(i).append('=').append(core.word(from + 4 * i)).append(' ');
        }
        return all.toString();
    }

    private String register(int which) {
        try {
            return Integer.toString(core.get(which));
        } catch (IllegalStateException unknown) {
            return "?";
        }
    }
}
