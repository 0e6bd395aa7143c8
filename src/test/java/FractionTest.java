import java.util.Random;

/** Terms, singles and doubles: the lists of the document, against the Java machine's own. */
public final class FractionTest {
    private static final Check CHECK = new Check("FractionTest");
    private static final Random RANDOM = new Random(3);
    private static final String TERMS = "Terms, FRACTIONS";
    private static final int NO_SINGLE = 0x7FBFFFFF;
    private static final long NO_DOUBLE = 0x7FF7FFFFFFFFFFFFL;

    private static final int[] SINGLES = {
        0, 0x80000000, 1, 0x80000001, 2, 3, 0x007FFFFF, 0x00800000, 0x00800001, 0x80800000, 0x7F7FFFFF, 0xFF7FFFFF,
        0x7F800000, 0xFF800000, 0x7FBFFFFF, 0x7FC00000, 0xFFC00001, 0x7F800001, 0xFFFFFFFF, 0x3F800000, 0xBF800000,
        0x3F000000, 0xBF000000, 0x3F000001, 0x3EFFFFFF, 0x3FC00000, 0xBFC00000, 0x40200000, 0xC0200000, 0x40000000,
        0x40490FDB, 0x4EFFFFFF, 0x4F000000, 0xCF000000, 0xCF000001, 0x4F800000, 0x33800000, 0x34000000, 0x33800001,
        0x4B000000, 0x4B800000, 0x4B000001, 0x5F000000, 0x1F800000, 0x20000000, 0x00400000, 0x7F000000};

    private static final long[] DOUBLES = {
        0, 1L << 63, 1, 1L << 63 | 1, 2, 3, 0x000FFFFFFFFFFFFFL, 0x0010000000000000L, 0x0010000000000001L,
        0x7FEFFFFFFFFFFFFFL, 0xFFEFFFFFFFFFFFFFL, 0x7FF0000000000000L, 0xFFF0000000000000L, NO_DOUBLE,
        0x7FF8000000000000L, 0xFFF8000000000001L, 0x7FF0000000000001L, -1L, 0x3FF0000000000000L, 0xBFF0000000000000L,
        0x3FE0000000000000L, 0xBFE0000000000000L, 0x3FE0000000000001L, 0x3FDFFFFFFFFFFFFFL, 0x3FF8000000000000L,
        0x4004000000000000L, 0xC004000000000000L, bits(2147483647), bits(2147483647.5), bits(2147483646.5),
        bits(2147483648.0), bits(-2147483648.0), bits(-2147483648.5), bits(-2147483648.75), bits(-2147483649.0),
        bits(2147483647.25), bits(-2147483647.5), 0x3CA0000000000000L, 0x3CB0000000000000L, 0x3CA0000000000001L,
        bits(Float.MAX_VALUE), 0x47EFFFFFF0000000L, 0x47EFFFFFEFFFFFFFL, bits(Float.MIN_VALUE), 0x3690000000000000L,
        0x3690000000000001L, 0x36A8000000000000L, 0x380FFFFFE0000000L, 0x380FFFFFF0000000L, 0x3FF0000010000000L,
        0x3FF0000030000000L, 0x3FF0000010000001L, 0x4340000000000000L, 0x5FE0000000000000L, 0x1FF0000000000000L};

    public static void main(String[] args) {
        CHECK.sentence(TERMS,
            "of formats S and D: ADD SUB MUL DIV SQRT ABS MOV NEG ROUND.W TRUNC.W CEIL.W FLOOR.W CVT.W");
        for (int a : SINGLES) {
            for (int b : SINGLES) {
                singles(a, b);
            }
            single(a);
        }
        for (long a : DOUBLES) {
            for (long b : DOUBLES) {
                doubles(a, b);
            }
            oneDouble(a);
        }
        for (int i = 0; i < 6000; i++) {
            int a = someSingle();
            singles(a, RANDOM.nextInt(8) == 0 ? a ^ RANDOM.nextInt(4) : someSingle());
            single(a);
            long b = someDouble();
            doubles(b, RANDOM.nextInt(8) == 0 ? b ^ RANDOM.nextInt(4) : someDouble());
            oneDouble(b);
        }
        products();
        words();
        moves();
        conditionPlaces();
        sameRegister();
        CHECK.close();
    }

    private static long bits(double v) {
        return Double.doubleToRawLongBits(v);
    }

    private static int someSingle() {
        int sign = RANDOM.nextInt(2) << 31;
        int mantissa = RANDOM.nextInt() >>> 9 & -1 << RANDOM.nextInt(24);
        switch (RANDOM.nextInt(5)) {
            case 0:
                return sign | RANDOM.nextInt() >>> 9 >>> RANDOM.nextInt(23);
            case 3:
                return sign | 126 + RANDOM.nextInt(4) << 23 | 1 << RANDOM.nextInt(23) | 1 << RANDOM.nextInt(23);
            case 1:
                return sign | 120 + RANDOM.nextInt(40) << 23 | mantissa;
            case 2:
                return sign | RANDOM.nextInt(256) << 23 | mantissa;
            default:
                return RANDOM.nextInt();
        }
    }

    private static long someDouble() {
        long sign = RANDOM.nextLong() << 63;
        long mantissa = RANDOM.nextLong() >>> 12 & -1L << RANDOM.nextInt(53);
        switch (RANDOM.nextInt(6)) {
            case 0:
                return sign | RANDOM.nextLong() >>> 12 >>> RANDOM.nextInt(52);
            case 4:
                return sign | 1022L + RANDOM.nextInt(4) << 52 | 1L << RANDOM.nextInt(52) | 1L << RANDOM.nextInt(52);
            case 1:
                return sign | 1015L + RANDOM.nextInt(45) << 52 | mantissa;
            case 2:
                return sign | 860L + RANDOM.nextInt(300) << 52 | mantissa;
            case 3:
                return sign | (long) RANDOM.nextInt(2048) << 52 | mantissa;
            default:
                return RANDOM.nextLong();
        }
    }

    private static int due(float v) {
        return Float.isNaN(v) ? NO_SINGLE : Float.floatToRawIntBits(v);
    }

    private static long due(double v) {
        return Double.isNaN(v) ? NO_DOUBLE : bits(v);
    }

    private static String told(String name, long a, long b) {
        return name + " of " + Long.toHexString(a) + ", " + Long.toHexString(b);
    }

    private static void singles(int a, int b) {
        float x = Float.intBitsToFloat(a);
        float y = Float.intBitsToFloat(b);
        int[] got = {Asm.fraction(0, Asm.S, 5, 3, 4), Asm.fraction(1, Asm.S, 6, 3, 4),
            Asm.fraction(2, Asm.S, 7, 3, 4), Asm.fraction(3, Asm.S, 8, 3, 4)};
        Rig rig = new Rig(got).with(Rig.FRACTION + 3, a).with(Rig.FRACTION + 4, b);
        CHECK.due("run", rig.core.run(4), 4);
        CHECK.due(told("ADD.S", a, b), rig.core.get(Rig.FRACTION + 5), due(x + y));
        CHECK.due(told("SUB.S", a, b), rig.core.get(Rig.FRACTION + 6), due(x - y));
        CHECK.due(told("MUL.S", a, b), rig.core.get(Rig.FRACTION + 7), due(x * y));
        CHECK.due(told("DIV.S", a, b), rig.core.get(Rig.FRACTION + 8), due(x / y));
        conditions(rig, Asm.S, 3, 4, x, y);
    }

    private static void doubles(long a, long b) {
        double x = Double.longBitsToDouble(a);
        double y = Double.longBitsToDouble(b);
        Rig rig = new Rig(Asm.fraction(0, Asm.D, 6, 2, 4), Asm.fraction(1, Asm.D, 8, 2, 4),
            Asm.fraction(2, Asm.D, 10, 2, 4), Asm.fraction(3, Asm.D, 12, 2, 4)).withDouble(2, a).withDouble(4, b);
        CHECK.due("run", rig.core.run(4), 4);
        CHECK.due(told("ADD.D", a, b), rig.doubleIn(6), due(x + y));
        CHECK.due(told("SUB.D", a, b), rig.doubleIn(8), due(x - y));
        CHECK.due(told("MUL.D", a, b), rig.doubleIn(10), due(x * y));
        CHECK.due(told("DIV.D", a, b), rig.doubleIn(12), due(x / y));
        conditions(rig, Asm.D, 2, 4, x, y);
    }

    /** The manual's table: bit 0 asks for no number among the two, bit 1 for equal, bit 2 for less. */
    private static void conditions(Rig rig, int format, int fs, int ft, double x, double y) {
        for (int half = 0; half < 16; half += 8) {
            for (int c = 0; c < 8; c++) {
                rig.core.put(64 + 4 * c, Asm.compare(half + c, format, c, fs, ft));
            }
            rig.core.go(64);
            rig.core.run(8);
            int want = 0;
            for (int c = 0; c < 8; c++) {
                boolean none = Double.isNaN(x) || Double.isNaN(y);
                boolean holds = (c & 1) != 0 && none || (c & 2) != 0 && x == y || (c & 4) != 0 && x < y;
                want |= holds ? 1 << c : 0;
            }
            CHECK.due("C of " + x + ", " + y, rig.core.get(Rig.CONDITIONS), want);
        }
    }

    /** Other work between the words, so that none can lean on what the one before took apart. */
    private static Rig apart(int... words) {
        int[] code = new int[2 * words.length];
        for (int i = 0; i < words.length; i++) {
            code[2 * i] = Asm.fraction(2, Asm.D, 28, 26, 24);
            code[2 * i + 1] = words[i];
        }
        return new Rig(code).withDouble(26, bits(-12345.678)).withDouble(24, bits(0.1));
    }

    private static void single(int a) {
        float x = Float.intBitsToFloat(a);
        int s = Asm.S;
        Rig rig = apart(Asm.fraction(4, s, 5, 3, 31), Asm.fraction(5, s, 6, 3, 31), Asm.fraction(7, s, 7, 3, 31),
            Asm.fraction(6, s, 8, 3, 31), Asm.fraction(33, s, 10, 3, 31), Asm.fraction(12, s, 12, 3, 31),
            Asm.fraction(13, s, 13, 3, 31), Asm.fraction(14, s, 14, 3, 31), Asm.fraction(15, s, 15, 3, 31),
            Asm.fraction(36, s, 16, 3, 31)).with(Rig.FRACTION + 3, a);
        CHECK.due("run", rig.core.run(20), 20);
        CHECK.due(told("SQRT.S", a, 0), rig.core.get(Rig.FRACTION + 5), due((float) Math.sqrt(x)));
        CHECK.due(told("ABS.S", a, 0), rig.core.get(Rig.FRACTION + 6), due(Math.abs(x)));
        CHECK.due(told("NEG.S", a, 0), rig.core.get(Rig.FRACTION + 7), due(-x));
        CHECK.due(told("MOV.S", a, 0), rig.core.get(Rig.FRACTION + 8), a);
        CHECK.due(told("CVT.D.S", a, 0), rig.doubleIn(10), due((double) x));
        intoWords(rig, x, a);
    }

    private static void oneDouble(long a) {
        double x = Double.longBitsToDouble(a);
        int d = Asm.D;
        Rig rig = apart(Asm.fraction(4, d, 4, 2, 31), Asm.fraction(5, d, 6, 2, 31), Asm.fraction(7, d, 8, 2, 31),
            Asm.fraction(6, d, 18, 2, 31), Asm.fraction(32, d, 11, 2, 31), Asm.fraction(12, d, 12, 2, 31),
            Asm.fraction(13, d, 13, 2, 31), Asm.fraction(14, d, 14, 2, 31), Asm.fraction(15, d, 15, 2, 31),
            Asm.fraction(36, d, 16, 2, 31)).withDouble(2, a);
        CHECK.due("run", rig.core.run(20), 20);
        CHECK.due(told("SQRT.D", a, 0), rig.doubleIn(4), due(Math.sqrt(x)));
        CHECK.due(told("ABS.D", a, 0), rig.doubleIn(6), due(Math.abs(x)));
        CHECK.due(told("NEG.D", a, 0), rig.doubleIn(8), due(-x));
        CHECK.due(told("MOV.D", a, 0), rig.doubleIn(18), a);
        CHECK.due(told("CVT.S.D", a, 0), rig.core.get(Rig.FRACTION + 11), due((float) x));
        intoWords(rig, x, a);
    }

    private static void intoWords(Rig rig, double x, long a) {
        double[] whole = {Math.rint(x), x < 0 ? Math.ceil(x) : Math.floor(x), Math.ceil(x), Math.floor(x),
            Math.rint(x)};
        String[] names = {"ROUND.W", "TRUNC.W", "CEIL.W", "FLOOR.W", "CVT.W"};
        for (int i = 0; i < 5; i++) {
            boolean fits = whole[i] >= Integer.MIN_VALUE && whole[i] <= Integer.MAX_VALUE;
            int want = fits ? (int) whole[i] : Integer.MAX_VALUE;
            CHECK.due(told(names[i], a, 0), rig.core.get(Rig.FRACTION + 12 + i), want);
        }
    }

    /** Few bits make ties, and ties that one bit far below decides. */
    private static void products() {
        CHECK.sentence(TERMS, "rounded to the nearest, of two the even one");
        for (int i = 1; i < 53; i++) {
            for (int far = 1; far < 53; far++) {
                long a = bits(1) | 1L << 52 - i;
                long b = bits(1) | 1L << i - 1 | 1L << 52 - far;
                double due = Double.longBitsToDouble(a) * Double.longBitsToDouble(b);
                Rig rig = new Rig(Asm.fraction(2, Asm.D, 6, 2, 4)).withDouble(2, a).withDouble(4, b);
                rig.core.run(1);
                CHECK.due(told("MUL.D", a, b), rig.doubleIn(6), bits(due));
            }
        }
    }

    private static void words() {
        CHECK.sentence(TERMS, "CVT.S of D and W, CVT.D of S and W");
        int[] edges = {0, 1, -1, 16777215, 16777216, 16777217, 16777218, 16777219, -16777217, 33554434, 33554435,
            33554438, Integer.MAX_VALUE, Integer.MIN_VALUE, Integer.MIN_VALUE + 1, 0x7FFFFFBF, 0x7FFFFFC0, 0x7FFFFF80};
        for (int i = 0; i < 2000; i++) {
            int v = i < edges.length ? edges[i] : RANDOM.nextInt() >> RANDOM.nextInt(32);
            Rig rig = new Rig(Asm.fraction(32, Asm.W, 5, 3, 31), Asm.fraction(33, Asm.W, 6, 3, 31))
                .with(Rig.FRACTION + 3, v);
            CHECK.due("run", rig.core.run(2), 2);
            CHECK.due("CVT.S.W of " + v, rig.core.get(Rig.FRACTION + 5), due((float) v));
            CHECK.due("CVT.D.W of " + v, rig.doubleIn(6), due((double) v));
        }
    }

    /** Bits stay as they are, also of what is no number; a move that is not asked for changes nothing. */
    private static void moves() {
        CHECK.sentence(TERMS, "MOVF MOVT MOVZ MOVN");
        long none = 0xFFF0000000000001L;
        for (int format : new int[] {Asm.S, Asm.D}) {
            for (int v : new int[] {0, 1, -1, Integer.MIN_VALUE}) {
                move(Asm.fraction(18, format, 4, 2, 9), format, none, v, 0, v == 0);
                move(Asm.fraction(19, format, 4, 2, 9), format, none, v, 0, v != 0);
            }
            for (int cc = 0; cc < 8; cc++) {
                for (int held : new int[] {0, 255, 1 << cc, 255 ^ 1 << cc}) {
                    boolean holds = (held >> cc & 1) != 0;
                    move(Asm.fraction(17, format, 4, 2, cc << 2), format, none, 0, held, !holds);
                    move(Asm.fraction(17, format, 4, 2, cc << 2 | 1), format, none, 0, held, holds);
                    move(Asm.fraction(17, format, 4, 2, cc << 2 | 2), format, none, 0, held, !holds);
                }
            }
        }
        CHECK.sentence(TERMS, "MFC1 MTC1");
        Rig rig = new Rig(0x44890000 | 3 << 11, 0x440A0000 | 3 << 11).with(9, 0x7F800001);
        rig.core.run(2);
        CHECK.due("MTC1", rig.core.get(Rig.FRACTION + 3), 0x7F800001);
        CHECK.due("MFC1", rig.core.get(10), 0x7F800001);
    }

    private static void move(int word, int format, long bits, int v, int conditions, boolean asked) {
        long before = 0x1111111122222222L;
        Rig rig = new Rig(word).withDouble(2, bits).withDouble(4, before).with(9, v).with(66, conditions);
        rig.core.run(1);
        long moved = format == Asm.D ? bits : before & 0xFFFFFFFF00000000L | bits & 0xFFFFFFFFL;
        CHECK.due("move " + Integer.toHexString(word), rig.doubleIn(4), asked ? moved : before);
    }

    private static void conditionPlaces() {
        CHECK.sentence(TERMS, "C with all sixteen conditions");
        Rig first = new Rig(Asm.compare(4, Asm.S, 0, 1, 2), Asm.compare(4, Asm.S, 1, 2, 1))
            .with(Rig.FRACTION + 1, due(1.0f)).with(Rig.FRACTION + 2, due(2.0f));
        first.core.run(1);
        CHECK.due("C.OLT alone", first.core.get(Rig.CONDITIONS), 1);
        first.core.run(1);
        CHECK.due("C.OLT the other way", first.core.get(Rig.CONDITIONS), 1);
        for (int cc = 0; cc < 8; cc++) {
            for (int held : new int[] {0, 255, 0xA5}) {
                Rig holds = new Rig(Asm.compare(2, Asm.S, cc, 1, 1)).with(Rig.CONDITIONS, held);
                holds.core.run(1);
                CHECK.due("C.EQ into " + cc, holds.core.get(Rig.CONDITIONS), held | 1 << cc);
                Rig not = new Rig(Asm.compare(0, Asm.D, cc, 2, 2)).with(Rig.CONDITIONS, held);
                not.core.run(1);
                CHECK.due("C.F into " + cc, not.core.get(Rig.CONDITIONS), held & ~(1 << cc));
            }
        }
    }

    private static void sameRegister() {
        CHECK.sentence(TERMS, "a double is in an even one (its low word) and the next one (its high word)");
        Rig rig = new Rig(Asm.fraction(0, Asm.D, 2, 2, 2), Asm.fraction(2, Asm.D, 2, 2, 2),
            Asm.fraction(3, Asm.D, 4, 2, 2), Asm.fraction(1, Asm.D, 6, 2, 2)).withDouble(2, bits(1.5));
        rig.core.run(4);
        CHECK.due("doubled, squared", rig.doubleIn(2), bits(9));
        CHECK.due("by itself", rig.doubleIn(4), bits(1));
        CHECK.due("less itself", rig.doubleIn(6), 0);
    }
}
