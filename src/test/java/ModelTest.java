import java.util.Random;

/**
 * Random programs and calls, on the class and on a second reading of the document (Model): every answer
 * has to be the same. Holds the Terms and promises 1 to 10 at once, wherever the two readings part.
 */
public final class ModelTest {
    private static final Check CHECK = new Check("ModelTest");
    private static final int[] CORNERS = {0, 1, 2, 3, 4, 8, -1, -2, -4, 31, 32, 33, 255, 256, 32767, 32768, -32768,
        65535, 65536, Integer.MAX_VALUE, Integer.MIN_VALUE, Integer.MIN_VALUE + 1, Integer.MAX_VALUE - 1};
    private static final int[] SINGLES = {0, 0x80000000, 1, 0x80000001, 0x007FFFFF, 0x00800000, 0x7F7FFFFF, 0xFF7FFFFF,
        0x7F800000, 0xFF800000, 0x7FC00000, 0x7F800001, 0xFFBFFFFF, 0x3F800000, 0xBF800000, 0x3F000000, 0xBF000000,
        0x3FC00000, 0x40200000, 0x4F000000, 0xCF000000, 0x4EFFFFFF, 0xCF000001, 0x34000000, 0x33800000, 0x4B000000};
    private static final long[] DOUBLES = {0, Long.MIN_VALUE, 1, 0x8000000000000001L, 0x000FFFFFFFFFFFFFL,
        0x0010000000000000L, 0x7FEFFFFFFFFFFFFFL, 0xFFEFFFFFFFFFFFFFL, 0x7FF0000000000000L, 0xFFF0000000000000L,
        0x7FF8000000000000L, 0x7FF0000000000001L, 0xFFF7FFFFFFFFFFFFL, 0x3FF0000000000000L, 0xBFF0000000000000L,
        0x3FE0000000000000L, 0xBFE0000000000000L, 0x3FF8000000000000L, 0x4004000000000000L, 0x41E0000000000000L,
        0x41DFFFFFFFC00000L, 0x41DFFFFFFFE00000L, 0x41DFFFFFFFDFFFFFL, 0xC1E0000000000000L, 0xC1E0000000100000L,
        0xC1E0000000100001L, 0xC1E0000000200000L, 0x47EFFFFFE0000000L, 0x47EFFFFFF0000000L, 0x47EFFFFFEFFFFFFFL,
        0x36A0000000000000L, 0x3690000000000000L, 0x3690000000000001L, 0x380FFFFFE0000000L, 0x380FFFFFF0000000L};
    /** By the line of Model's table, and one more for words that it does not have. */
    private static final int[] TRIED = new int[Model.TABLE.length + 1];

    private static final int PUT = 0, WORD = 1, GO = 2, SET = 3, GET = 4, RUN = 5, END = 6, PASS = 7, STATE = 8;
    private static final String[] CALLS = {"put", "word", "go", "set", "get", "run", "end", "pass", "state"};

    private static Random random;
    private static DelayCore core;
    private static Model model;
    private static int calls;
    private static String story;

    public static void main(String[] args) {
        int programs = args.length > 0 ? Integer.parseInt(args[0]) : 6_000;
        int first = args.length > 1 ? Integer.parseInt(args[1]) : 1;
        for (int i = 0; i < programs; i++) {
            random = new Random(first + i);
            oneProgram(first + i);
        }
        for (int i = 0; i < TRIED.length; i++) {
            CHECK.due("line " + i + " of the table was tried", TRIED[i] > 0 ? 1 : 0, 1);
        }
        CHECK.close();
    }

    private static void oneProgram(int seed) {
        int size = random.nextInt(4) == 0 ? random.nextInt(1400) : 1024;
        core = new DelayCore(size);
        model = new Model(size);
        calls = 0;
        story = "program " + seed + ", call ";
        int length = 1 + random.nextInt(24);
        for (int i = 0; i < length; i++) {
            ask(PUT, 4 * i, word());
        }
        putLinkedPair(4 * random.nextInt(length));
        for (int i = 0; i < 12; i++) {
            ask(PUT, 4 * random.nextInt(256), random.nextBoolean() ? random.nextInt() : single());
        }
        fillRegisters();
        while (calls < 300) {
            oneCall();
        }
        compareAll();
    }

    /** By chance alone a LL and a SC hardly meet. */
    private static void putLinkedPair(int address) {
        int place = 512 + 4 * random.nextInt(2);
        int behind = 4 + 4 * random.nextInt(2);
        ask(PUT, address, Asm.ll(random.nextInt(32), 0, place));
        ask(PUT, address + behind, Asm.sc(random.nextInt(32), 0, random.nextInt(5) == 0 ? place ^ 4 : place));
    }

    private static void fillRegisters() {
        for (int i = 1; i <= 32; i++) {
            ask(SET, i, value());
        }
        for (int i = 0; i < 32; i += 2) {
            boolean pair = random.nextBoolean();
            long bits = someDouble();
            ask(SET, 34 + i, pair ? (int) bits : single());
            ask(SET, 35 + i, pair ? (int) (bits >>> 32) : single());
        }
        ask(SET, 66, random.nextInt());
    }

    private static void oneCall() {
        switch (random.nextInt(16)) {
            case 0:
                ask(PUT, address(), word());
                break;
            case 1:
                ask(WORD, address(), 0);
                break;
            case 2:
                ask(GO, random.nextInt(8) == 0 ? address() : 4 * random.nextInt(24), 0);
                break;
            case 3:
                ask(SET, random.nextInt(70) - 1, value());
                break;
            case 4:
                ask(GET, random.nextInt(70) - 1, 0);
                break;
            case 5: case 6: case 7: case 8: case 9:
                ask(RUN, random.nextInt(16) == 0 ? random.nextInt(30) - 10 : 1 + random.nextInt(6), 0);
                break;
            case 10:
                ask(RUN, 1 + random.nextInt(200), 0);
                break;
            case 11:
                ask(PASS, 0, 0);
                break;
            default:
                ask(STATE, random.nextInt(10) - 1, 0);
                break;
        }
        ask(END, 0, 0);
        if (model.end != 0 && random.nextInt(3) != 0) {
            ask(PASS, 0, 0);
            ask(GO, 4 * random.nextInt(24), 0);
        }
    }

    private static void compareAll() {
        for (int i = 0; i <= 66; i++) {
            ask(GET, i, 0);
        }
        for (int i = 0; i < 8; i++) {
            ask(STATE, i, 0);
        }
        for (int i = 0; i < 100; i++) {
            ask(WORD, 4 * random.nextInt(256), 0);
        }
    }

    private static void ask(int call, int a, int b) {
        calls++;
        String due = ofModel(call, a, b);
        String got = ofCore(call, a, b);
        CHECK.due(story + calls + ", " + CALLS[call] + "(" + a + ", " + b + ")", got, due);
    }

    private static String ofCore(int call, int a, int b) {
        try {
            switch (call) {
                case PUT: return "" + core.put(a, b);
                case WORD: return "" + core.word(a);
                case GO: return "" + core.go(a);
                case SET: return "" + core.set(a, b);
                case GET: return "" + core.get(a);
                case RUN: return "" + core.run(a);
                case END: return "" + core.end();
                case PASS: return "" + core.pass();
                default: return "" + core.state(a);
            }
        } catch (RuntimeException e) {
            return e.getClass().getName();
        }
    }

    private static String ofModel(int call, int a, int b) {
        try {
            switch (call) {
                case PUT: return "" + model.put(a, b);
                case WORD: return "" + model.word(a);
                case GO: return "" + model.go(a);
                case SET: return "" + model.set(a, b);
                case GET: return "" + model.get(a);
                case RUN: return "" + model.run(a);
                case END: return "" + model.end;
                case PASS: return "" + model.pass();
                default: return "" + model.state(a);
            }
        } catch (RuntimeException e) {
            return e.getClass().getName();
        }
    }

    private static int word() {
        if (random.nextInt(24) == 0) {
            int any = random.nextInt();
            TRIED[Model.TABLE.length] += Model.namesOf(any).isEmpty() ? 1 : 0;
            return any;
        }
        int line = random.nextInt(Model.TABLE.length);
        TRIED[line]++;
        int word = Model.encode(line, random.nextInt());
        CHECK.due("one line for " + Integer.toHexString(word), Model.namesOf(word).size(), 1);
        if (random.nextInt(8) == 0) {
            return word;
        }
        return Model.encode(line, tame(word));
    }

    /** Short ways for branches, near targets for jumps, even registers for doubles. */
    private static int tame(int word) {
        int opcode = word >>> 26;
        if (opcode == 2 || opcode == 3) {
            return word & 0xFC00001F;
        }
        if (opcode == 17 && (word >>> 25 & 1) == 1) {
            return word & ~(random.nextInt(4) == 0 ? 0 : 1 << 6 | 1 << 11 | 1 << 16);
        }
        if (opcode >= 32) {
            return tameAccess(word);
        }
        if (opcode == 1 || opcode >= 4 && opcode <= 7 || opcode >= 20 && opcode <= 23 || opcode == 17) {
            return word & 0xFFFF0000 | random.nextInt(14) - 6 & 0xFFFF;
        }
        return word;
    }

    /** Half of them from register 0, so that most addresses are good. */
    private static int tameAccess(int word) {
        int base = random.nextBoolean() ? word >>> 21 & 3 : 0;
        int far = random.nextInt(1100) & -(1 << random.nextInt(4));
        int offset = base == 0 ? far : random.nextInt(17) - 8;
        int even = random.nextInt(3) == 0 ? 0 : 1 << 16;
        return word & 0xFC1F0000 & ~even | base << 21 | offset & 0xFFFF;
    }

    private static int value() {
        switch (random.nextInt(4)) {
            case 0:
                return random.nextInt();
            case 1:
                return CORNERS[random.nextInt(CORNERS.length)];
            case 2:
                return 4 * random.nextInt(30);
            default:
                return random.nextInt(1100) & -(1 << random.nextInt(4));
        }
    }

    private static int address() {
        return random.nextInt(4) == 0 ? value() : 4 * random.nextInt(260);
    }

    private static int single() {
        switch (random.nextInt(4)) {
            case 0:
                return SINGLES[random.nextInt(SINGLES.length)];
            case 1:
                return SINGLES[random.nextInt(SINGLES.length)] + random.nextInt(5) - 2;
            case 2:
                return Float.floatToRawIntBits(random.nextInt(2000) / 8.0f - 100);
            default:
                return random.nextInt();
        }
    }

    private static long someDouble() {
        switch (random.nextInt(5)) {
            case 0:
                return DOUBLES[random.nextInt(DOUBLES.length)];
            case 1:
                return DOUBLES[random.nextInt(DOUBLES.length)] + random.nextInt(5) - 2;
            case 2:
                return Double.doubleToRawLongBits(random.nextInt(2000) / 8.0 - 100);
            case 3:
                return Double.doubleToRawLongBits(Float.intBitsToFloat(random.nextInt()));
            default:
                return random.nextLong();
        }
    }
}
