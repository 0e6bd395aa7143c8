/** Terms, the fractions: a method for each sentence, with its words in its remark; all that is due is written out. */
public final class FractionTermsTest {
    private static final Check CHECK = new Check("FractionTermsTest");
    private static final String TERMS = "Terms, FRACTIONS";
    private static final int MIN = Integer.MIN_VALUE;
    private static final int MAX = Integer.MAX_VALUE;
    private static final int NO_SINGLE = 0x7FBFFFFF;
    private static final long NO_DOUBLE = 0x7FF7FFFFFFFFFFFFL;

    private static final int ADD = 0, SUB = 1, MUL = 2, DIV = 3, SQRT = 4, ABS = 5, MOV = 6, NEG = 7;
    private static final int CVT_S = 32, CVT_D = 33;
    private static final int[] INTO_WORD = {12, 13, 14, 15, 36};

    private static final int ONE = 0x3F800000, HALF = 0x3F000000, TWO = 0x40000000, THREE = 0x40400000;
    private static final int INFINITY = 0x7F800000, MOST = 0x7F7FFFFF, SIGN = 0x80000000;
    private static final long ONE_D = 0x3FF0000000000000L, HALF_D = 0x3FE0000000000000L, TWO_D = 0x4000000000000000L;
    private static final long THREE_D = 0x4008000000000000L, SIGN_D = 0x8000000000000000L;
    private static final long INFINITY_D = 0x7FF0000000000000L, MOST_D = 0x7FEFFFFFFFFFFFFFL;

    /** The first and the last ones behind infinity, with either sign; of doubles also in one word alone. */
    private static final int[] NO_SINGLES = {0x7F800001, NO_SINGLE, 0x7FC00000, 0x7FFFFFFF, 0xFF800001, 0xFFFFFFFF};
    private static final long[] NO_DOUBLES = {0x7FF0000000000001L, 0x7FF0000100000000L, NO_DOUBLE, 0x7FF8000000000000L,
        0x7FFFFFFFFFFFFFFFL, 0xFFF0000000000001L, 0xFFF0000080000000L, -1L};

    public static void main(String[] args) {
        nearestOfSingles();
        nearestOfDoubles();
        edgesOfSingles();
        edgesOfDoubles();
        conversions();
        noNumberAsResult();
        noNumberOfNoNumber();
        bitsLeftAsTheyAre();
        intoWord();
        doesNotFit();
        conditions();
        CHECK.close();
    }

    private static void single(int function, int a, int b, int due) {
        Rig rig = new Rig(Asm.fraction(function, Asm.S, 5, 2, 3)).with(Rig.FRACTION + 2, a).with(Rig.FRACTION + 3, b);
        CHECK.due("it is done", rig.core.run(1), 1);
        CHECK.due("function " + function + ".S of " + Integer.toHexString(a) + ", " + Integer.toHexString(b),
            rig.core.get(Rig.FRACTION + 5), due);
    }

    private static void wide(int function, long a, long b, long due) {
        Rig rig = new Rig(Asm.fraction(function, Asm.D, 6, 2, 4)).withDouble(2, a).withDouble(4, b);
        CHECK.due("it is done", rig.core.run(1), 1);
        CHECK.due("function " + function + ".D of " + Long.toHexString(a) + ", " + Long.toHexString(b),
            rig.doubleIn(6), due);
    }

    /** "FRACTIONS are those of IEEE 754, rounded to the nearest, of two the even one.": singles. */
    private static void nearestOfSingles() {
        CHECK.sentence(TERMS, "rounded to the nearest, of two the even one");
        single(ADD, ONE, 0x33800000, ONE);
        single(ADD, 0x3F800001, 0x33800000, 0x3F800002);
        single(ADD, ONE, 0x33800001, 0x3F800001);
        single(ADD, ONE, 0x337FFFFF, ONE);
        single(SUB, ONE, 0x33000000, ONE);
        single(SUB, ONE, 0x33000001, 0x3F7FFFFF);
        single(MUL, 1, HALF, 0);
        single(MUL, SIGN | 1, HALF, SIGN);
        single(MUL, 3, HALF, 2);
        single(MUL, 1, 0x3F000001, 1);
        single(MUL, 0x00800000, 0x3F7FFFFF, 0x00800000);
        single(DIV, ONE, THREE, 0x3EAAAAAB);
        single(DIV, 1, TWO, 0);
        single(DIV, 3, TWO, 2);
        single(SQRT, TWO, 0, 0x3FB504F3);
        single(SQRT, 1, 0, 0x1A3504F3);
    }

    /** The same sentence: doubles. */
    private static void nearestOfDoubles() {
        CHECK.sentence(TERMS, "FRACTIONS are those of IEEE 754, rounded to the nearest, of two the even one.");
        wide(ADD, ONE_D, 0x3CA0000000000000L, ONE_D);
        wide(ADD, ONE_D | 1, 0x3CA0000000000000L, ONE_D | 2);
        wide(ADD, ONE_D, 0x3CA0000000000001L, ONE_D | 1);
        wide(ADD, ONE_D, 0x3C9FFFFFFFFFFFFFL, ONE_D);
        wide(SUB, ONE_D, 0x3C90000000000000L, ONE_D);
        wide(SUB, ONE_D, 0x3C90000000000001L, 0x3FEFFFFFFFFFFFFFL);
        wide(MUL, 1, HALF_D, 0);
        wide(MUL, SIGN_D | 1, HALF_D, SIGN_D);
        wide(MUL, 3, HALF_D, 2);
        wide(MUL, 1, HALF_D | 1, 1);
        wide(MUL, 0x0010000000000000L, 0x3FEFFFFFFFFFFFFFL, 0x0010000000000000L);
        wide(DIV, ONE_D, THREE_D, 0x3FD5555555555555L);
        wide(DIV, 1, TWO_D, 0);
        wide(DIV, 3, TWO_D, 2);
        wide(SQRT, TWO_D, 0, 0x3FF6A09E667F3BCDL);
        wide(SQRT, 1, 0, 0x1E60000000000000L);
    }

    /** "FRACTIONS are those of IEEE 754": too large, too small, zeros and infinities; singles. */
    private static void edgesOfSingles() {
        CHECK.sentence(TERMS, "FRACTIONS are those of IEEE 754");
        single(ADD, MOST, 0x73000000, INFINITY);
        single(ADD, MOST, 0x72FFFFFF, MOST);
        single(ADD, SIGN | MOST, 0xF3000000, SIGN | INFINITY);
        single(ADD, INFINITY, SIGN | MOST, INFINITY);
        single(ADD, 0x007FFFFF, 1, 0x00800000);
        single(SUB, 0x00800000, 1, 0x007FFFFF);
        single(ADD, ONE, SIGN | ONE, 0);
        single(ADD, SIGN, SIGN, SIGN);
        single(ADD, SIGN, 0, 0);
        single(SUB, SIGN, 0, SIGN);
        single(SUB, 0, 0, 0);
        single(MUL, MOST, TWO, INFINITY);
        single(MUL, 0x20000000, 0x1F800000, 0x00400000);
        single(MUL, 1, 1, 0);
        single(MUL, SIGN | 1, 1, SIGN);
        single(MUL, SIGN | INFINITY, TWO, SIGN | INFINITY);
        single(DIV, ONE, 0, INFINITY);
        single(DIV, SIGN | ONE, 0, SIGN | INFINITY);
        single(DIV, ONE, SIGN, SIGN | INFINITY);
        single(DIV, ONE, INFINITY, 0);
        single(DIV, SIGN | ONE, INFINITY, SIGN);
        single(DIV, MOST, HALF, INFINITY);
        single(DIV, INFINITY, 0, INFINITY);
        single(DIV, 0, SIGN | INFINITY, SIGN);
        single(SQRT, SIGN, 0, SIGN);
        single(SQRT, INFINITY, 0, INFINITY);
        single(ABS, SIGN, 0, 0);
        single(ABS, SIGN | INFINITY, 0, INFINITY);
        single(NEG, 0, 0, SIGN);
        single(NEG, SIGN | 1, 0, 1);
    }

    /** The same sentence: doubles. */
    private static void edgesOfDoubles() {
        CHECK.sentence(TERMS, "FRACTIONS are those of IEEE 754");
        wide(ADD, MOST_D, 0x7C90000000000000L, INFINITY_D);
        wide(ADD, MOST_D, 0x7C8FFFFFFFFFFFFFL, MOST_D);
        wide(ADD, SIGN_D | MOST_D, 0xFC90000000000000L, SIGN_D | INFINITY_D);
        wide(ADD, INFINITY_D, SIGN_D | MOST_D, INFINITY_D);
        wide(ADD, 0x000FFFFFFFFFFFFFL, 1, 0x0010000000000000L);
        wide(SUB, 0x0010000000000000L, 1, 0x000FFFFFFFFFFFFFL);
        wide(ADD, ONE_D, SIGN_D | ONE_D, 0);
        wide(ADD, SIGN_D, SIGN_D, SIGN_D);
        wide(ADD, SIGN_D, 0, 0);
        wide(SUB, SIGN_D, 0, SIGN_D);
        wide(SUB, 0, 0, 0);
        wide(MUL, MOST_D, TWO_D, INFINITY_D);
        wide(MUL, 1, 1, 0);
        wide(MUL, SIGN_D | 1, 1, SIGN_D);
        wide(MUL, SIGN_D | INFINITY_D, TWO_D, SIGN_D | INFINITY_D);
        wide(DIV, ONE_D, 0, INFINITY_D);
        wide(DIV, SIGN_D | ONE_D, 0, SIGN_D | INFINITY_D);
        wide(DIV, ONE_D, SIGN_D, SIGN_D | INFINITY_D);
        wide(DIV, ONE_D, INFINITY_D, 0);
        wide(DIV, SIGN_D | ONE_D, INFINITY_D, SIGN_D);
        wide(DIV, MOST_D, HALF_D, INFINITY_D);
        wide(DIV, INFINITY_D, 0, INFINITY_D);
        wide(DIV, 0, SIGN_D | INFINITY_D, SIGN_D);
        wide(SQRT, SIGN_D, 0, SIGN_D);
        wide(SQRT, INFINITY_D, 0, INFINITY_D);
        wide(ABS, SIGN_D, 0, 0);
        wide(ABS, SIGN_D | INFINITY_D, 0, INFINITY_D);
        wide(NEG, 0, 0, SIGN_D);
        wide(NEG, SIGN_D | 1, 0, 1);
    }

    private static void toSingle(long a, int due) {
        Rig rig = new Rig(Asm.fraction(CVT_S, Asm.D, 5, 2, 0)).withDouble(2, a);
        CHECK.due("it is done", rig.core.run(1), 1);
        CHECK.due("CVT.S.D of " + Long.toHexString(a), rig.core.get(Rig.FRACTION + 5), due);
    }

    private static void toDouble(int a, long due) {
        Rig rig = new Rig(Asm.fraction(CVT_D, Asm.S, 6, 3, 0)).with(Rig.FRACTION + 3, a);
        CHECK.due("it is done", rig.core.run(1), 1);
        CHECK.due("CVT.D.S of " + Integer.toHexString(a), rig.doubleIn(6), due);
    }

    private static void fromWord(int v, int dueSingle, long dueDouble) {
        Rig rig = new Rig(Asm.fraction(CVT_S, Asm.W, 5, 3, 0), Asm.fraction(CVT_D, Asm.W, 6, 3, 0))
            .with(Rig.FRACTION + 3, v);
        CHECK.due("both are done", rig.core.run(2), 2);
        CHECK.due("CVT.S.W of " + v, rig.core.get(Rig.FRACTION + 5), dueSingle);
        CHECK.due("CVT.D.W of " + v, rig.doubleIn(6), dueDouble);
    }

    /** "CVT.S of D and W, CVT.D of S and W": too large, too small, and between two. */
    private static void conversions() {
        CHECK.sentence("Terms, INSTRUCTIONS", "CVT.S of D and W, CVT.D of S and W.");
        toSingle(0x47EFFFFFF0000000L, INFINITY);
        toSingle(0xC7EFFFFFF0000000L, SIGN | INFINITY);
        toSingle(0x47EFFFFFEFFFFFFFL, MOST);
        toSingle(MOST_D, INFINITY);
        toSingle(INFINITY_D, INFINITY);
        toSingle(0x3690000000000000L, 0);
        toSingle(0xB690000000000000L, SIGN);
        toSingle(0x3690000000000001L, 1);
        toSingle(0x36A8000000000000L, 2);
        toSingle(1, 0);
        toSingle(SIGN_D, SIGN);
        toSingle(0x3FF0000010000000L, ONE);
        toSingle(0x3FF0000030000000L, 0x3F800002);
        toSingle(0x3FF0000010000001L, 0x3F800001);
        toDouble(1, 0x36A0000000000000L);
        toDouble(SIGN | 1, 0xB6A0000000000000L);
        toDouble(0x007FFFFF, 0x380FFFFFC0000000L);
        toDouble(MOST, 0x47EFFFFFE0000000L);
        toDouble(SIGN | INFINITY, SIGN_D | INFINITY_D);
        toDouble(SIGN, SIGN_D);
        fromWord(0, 0, 0);
        fromWord(1, ONE, ONE_D);
        fromWord(-1, SIGN | ONE, SIGN_D | ONE_D);
        fromWord(16_777_217, 0x4B800000, 0x4170000010000000L);
        fromWord(16_777_219, 0x4B800002, 0x4170000030000000L);
        fromWord(MAX, 0x4F000000, 0x41DFFFFFFFC00000L);
        fromWord(MIN, 0xCF000000, 0xC1E0000000000000L);
    }

    /** "A result that is no number is 7FBFFFFF, of a double 7FF7FFFFFFFFFFFF (hexadecimal)": out of numbers. */
    private static void noNumberAsResult() {
        CHECK.sentence(TERMS, "A result that is no number is 7FBFFFFF, of a double 7FF7FFFFFFFFFFFF (hexadecimal)");
        for (int sign : new int[] {0, SIGN}) {
            long wideSign = sign == 0 ? 0 : SIGN_D;
            single(ADD, sign | INFINITY, ~sign & SIGN | INFINITY, NO_SINGLE);
            single(SUB, sign | INFINITY, sign | INFINITY, NO_SINGLE);
            single(MUL, sign, INFINITY, NO_SINGLE);
            single(MUL, INFINITY, sign, NO_SINGLE);
            single(DIV, sign, 0, NO_SINGLE);
            single(DIV, sign | INFINITY, INFINITY, NO_SINGLE);
            wide(ADD, wideSign | INFINITY_D, ~wideSign & SIGN_D | INFINITY_D, NO_DOUBLE);
            wide(SUB, wideSign | INFINITY_D, wideSign | INFINITY_D, NO_DOUBLE);
            wide(MUL, wideSign, INFINITY_D, NO_DOUBLE);
            wide(MUL, INFINITY_D, wideSign, NO_DOUBLE);
            wide(DIV, wideSign, 0, NO_DOUBLE);
            wide(DIV, wideSign | INFINITY_D, INFINITY_D, NO_DOUBLE);
        }
        single(SQRT, SIGN | 1, 0, NO_SINGLE);
        single(SQRT, SIGN | ONE, 0, NO_SINGLE);
        single(SQRT, SIGN | INFINITY, 0, NO_SINGLE);
        wide(SQRT, SIGN_D | 1, 0, NO_DOUBLE);
        wide(SQRT, SIGN_D | ONE_D, 0, NO_DOUBLE);
        wide(SQRT, SIGN_D | INFINITY_D, 0, NO_DOUBLE);
    }

    /** "also of ABS, NEG and CVT": whatever bits what is no number had, on either side. */
    private static void noNumberOfNoNumber() {
        CHECK.sentence(TERMS, "A result that is no number is 7FBFFFFF, of a double 7FF7FFFFFFFFFFFF (hexadecimal), also"
            + " of ABS, NEG and CVT");
        for (int none : NO_SINGLES) {
            for (int function = ADD; function <= DIV; function++) {
                for (int other : new int[] {0, SIGN, 1, ONE, MOST, INFINITY, SIGN | INFINITY, 0xFFC00000}) {
                    single(function, none, other, NO_SINGLE);
                    single(function, other, none, NO_SINGLE);
                }
            }
            single(SQRT, none, 0, NO_SINGLE);
            single(ABS, none, 0, NO_SINGLE);
            single(NEG, none, 0, NO_SINGLE);
            toDouble(none, NO_DOUBLE);
        }
        for (long none : NO_DOUBLES) {
            for (int function = ADD; function <= DIV; function++) {
                for (long other : new long[] {0, SIGN_D, 1, ONE_D, MOST_D, INFINITY_D, SIGN_D | INFINITY_D, -2L}) {
                    wide(function, none, other, NO_DOUBLE);
                    wide(function, other, none, NO_DOUBLE);
                }
            }
            wide(SQRT, none, 0, NO_DOUBLE);
            wide(ABS, none, 0, NO_DOUBLE);
            wide(NEG, none, 0, NO_DOUBLE);
            toSingle(none, NO_SINGLE);
        }
    }

    /** "MOV, MOVF to MOVN, loads and stores leave bits as they are": also of what is no number. */
    private static void bitsLeftAsTheyAre() {
        CHECK.sentence(TERMS, "MOV, MOVF to MOVN, loads and stores leave bits as they are.");
        for (int none : NO_SINGLES) {
            single(MOV, none, 0, none);
            Rig rig = new Rig(Asm.fraction(17, Asm.S, 5, 2, 0), Asm.fraction(17, Asm.S, 6, 2, 5),
                Asm.fraction(18, Asm.S, 7, 2, 0), Asm.fraction(19, Asm.S, 8, 2, 9), Asm.access(Asm.SWC1, 2, 0, 512),
                Asm.access(Asm.LWC1, 9, 0, 512), 0x44000000 | 11 << 16 | 2 << 11, 0x44800000 | 11 << 16 | 10 << 11)
                .with(Rig.FRACTION + 2, none).with(Rig.CONDITIONS, 2).with(9, 1);
            CHECK.due("all are done", rig.core.run(8), 8);
            for (int fraction = 5; fraction <= 10; fraction++) {
                CHECK.due("fraction " + fraction, rig.core.get(Rig.FRACTION + fraction), none);
            }
            CHECK.due("stored", rig.core.word(512), none);
        }
        for (long none : NO_DOUBLES) {
            wide(MOV, none, 0, none);
            Rig rig = new Rig(Asm.fraction(17, Asm.D, 6, 2, 0), Asm.fraction(17, Asm.D, 8, 2, 5),
                Asm.fraction(18, Asm.D, 10, 2, 0), Asm.fraction(19, Asm.D, 12, 2, 9), Asm.access(Asm.SDC1, 2, 0, 512),
                Asm.access(Asm.LDC1, 14, 0, 512)).withDouble(2, none).with(Rig.CONDITIONS, 2).with(9, 1);
            CHECK.due("all are done", rig.core.run(6), 6);
            for (int fraction = 6; fraction <= 14; fraction += 2) {
                CHECK.due("fraction " + fraction, rig.doubleIn(fraction), none);
            }
        }
    }

    private static void wordsOf(int format, long bits, int... due) {
        for (int i = 0; i < INTO_WORD.length; i++) {
            Rig rig = new Rig(Asm.fraction(INTO_WORD[i], format, 5, 2, 0)).withDouble(2, bits);
            CHECK.due("it is done", rig.core.run(1), 1);
            CHECK.due("function " + INTO_WORD[i] + " of " + Long.toHexString(bits), rig.core.get(Rig.FRACTION + 5),
                due[due.length == 1 ? 0 : i]);
        }
    }

    private static void words(double v, int... due) {
        wordsOf(Asm.D, Double.doubleToRawLongBits(v), due);
        if ((float) v == v) {
            wordsOf(Asm.S, Float.floatToRawIntBits((float) v), due);
        }
    }

    /** "Into a word (CVT.W as ROUND.W: the nearest, of two the even one)": ROUND, TRUNC, CEIL, FLOOR, CVT. */
    private static void intoWord() {
        CHECK.sentence(TERMS, "Into a word (CVT.W as ROUND.W: the nearest, of two the even one)");
        words(0.0, 0);
        words(-0.0, 0);
        words(0.5, 0, 0, 1, 0, 0);
        words(-0.5, 0, 0, 0, -1, 0);
        words(1.5, 2, 1, 2, 1, 2);
        words(-1.5, -2, -1, -1, -2, -2);
        words(2.5, 2, 2, 3, 2, 2);
        words(-2.5, -2, -2, -2, -3, -2);
        words(0.5000001, 1, 0, 1, 0, 1);
        words(0.4999999, 0, 0, 1, 0, 0);
        words(Double.MIN_VALUE, 0, 0, 1, 0, 0);
        words(-Double.MIN_VALUE, 0, 0, 0, -1, 0);
        words(Float.MIN_VALUE, 0, 0, 1, 0, 0);
        words(-Float.MIN_VALUE, 0, 0, 0, -1, 0);
        words(1.0, 1);
        words(-1.0, -1);
    }

    /** "7FFFFFFF for what does not fit, and what is no number": just inside and just outside. */
    private static void doesNotFit() {
        CHECK.sentence(TERMS, "7FFFFFFF for what does not fit, and what is no number.");
        words(2147483520.0, 2147483520);
        words(2147483646.5, MAX - 1, MAX - 1, MAX, MAX - 1, MAX - 1);
        words(2147483647.0, MAX);
        words(2147483647.5, MAX);
        words(2147483648.0, MAX);
        words(-2147483647.5, MIN, -MAX, -MAX, MIN, MIN);
        words(-2147483648.0, MIN);
        words(-2147483648.5, MIN, MIN, MIN, MAX, MIN);
        words(-2147483648.75, MAX, MIN, MIN, MAX, MAX);
        words(-2147483649.0, MAX);
        words(-2147483904.0, MAX);
        words(4294967296.0, MAX);
        words(4294967297.0, MAX);
        words(-4294967295.0, MAX);
        words(Float.MAX_VALUE, MAX);
        words(-Float.MAX_VALUE, MAX);
        words(Double.MAX_VALUE, MAX);
        words(-Double.MAX_VALUE, MAX);
        words(Double.POSITIVE_INFINITY, MAX);
        words(Double.NEGATIVE_INFINITY, MAX);
        for (int none : NO_SINGLES) {
            wordsOf(Asm.S, none, MAX);
        }
        for (long none : NO_DOUBLES) {
            wordsOf(Asm.D, none, MAX);
        }
    }

    /** Which of F UN EQ UEQ OLT ULT OLE ULE hold, as the manual's table has them. */
    private static final String UNORDERED = ".T.T.T.T", EQUAL = "..TT..TT", LESS = "....TTTT", GREATER = "........";

    private static void compared(int format, long a, long b, String due) {
        Rig rig = new Rig().withDouble(2, a).withDouble(4, b);
        StringBuilder got = new StringBuilder();
        for (int condition = 0; condition < 16; condition++) {
            rig.core.put(0, Asm.compare(condition, format, 7, 2, 4));
            rig.core.set(Rig.CONDITIONS, condition % 3 == 0 ? 128 : 0);
            rig.core.go(0);
            CHECK.due("it is done", rig.core.run(1), 1);
            got.append(rig.core.get(Rig.CONDITIONS) == 128 ? 'T' : '.');
        }
        CHECK.due("C of " + Long.toHexString(a) + ", " + Long.toHexString(b), got.toString(), due + due);
    }

    /** "Conditions of C with no number among its two: as the manual's table has them, the upper eight as the lower". */
    private static void conditions() {
        CHECK.sentence(TERMS, "Conditions of C with no number among its two: as the manual's table has them, the upper"
            + " eight as the lower ones.");
        for (int none : NO_SINGLES) {
            for (int other : new int[] {0, ONE, SIGN | INFINITY, INFINITY, none, 0xFFC00000}) {
                compared(Asm.S, none, other, UNORDERED);
                compared(Asm.S, other, none, UNORDERED);
            }
        }
        for (long none : NO_DOUBLES) {
            for (long other : new long[] {0, ONE_D, SIGN_D | INFINITY_D, INFINITY_D, none, -2L}) {
                compared(Asm.D, none, other, UNORDERED);
                compared(Asm.D, other, none, UNORDERED);
            }
        }
        int[] singles = {SIGN | INFINITY, SIGN | MOST, SIGN | ONE, SIGN | 1, 0, 1, 0x00800000, ONE, 0x3F800001, MOST,
            INFINITY};
        long[] doubles = {SIGN_D | INFINITY_D, SIGN_D | MOST_D, SIGN_D | ONE_D, SIGN_D | 1, 0, 1, 0x0010000000000000L,
            ONE_D, ONE_D | 1, MOST_D, INFINITY_D};
        for (int i = 0; i < singles.length; i++) {
            for (int k = 0; k < singles.length; k++) {
                String due = i < k ? LESS : i == k ? EQUAL : GREATER;
                compared(Asm.S, singles[i], singles[k], due);
                compared(Asm.D, doubles[i], doubles[k], due);
            }
        }
        for (int i = 5; i < singles.length; i++) {
            compared(Asm.S, SIGN, singles[i], LESS);
            compared(Asm.S, SIGN, SIGN | singles[i], GREATER);
            compared(Asm.S, SIGN | singles[i], SIGN, LESS);
            compared(Asm.D, SIGN_D, doubles[i], LESS);
            compared(Asm.D, SIGN_D, SIGN_D | doubles[i], GREATER);
            compared(Asm.D, SIGN_D | doubles[i], SIGN_D, LESS);
        }
        compared(Asm.S, 0, SIGN, EQUAL);
        compared(Asm.S, SIGN, 0, EQUAL);
        compared(Asm.D, 0, SIGN_D, EQUAL);
        compared(Asm.D, SIGN_D, 0, EQUAL);
    }
}
