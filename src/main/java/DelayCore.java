/**
 * The processor MIPS32 (first release) as a program of one user has it, with its coprocessor for
 * fractions. The class itself checks arguments and throws; the classes inside it never throw.
 */
public final class DelayCore {
    private static final int DONE = 0;
    private static final int LOAD = 1;
    private static final int STORE = 2;
    private static final int RESERVED = 3;
    private static final int OVERFLOW = 4;
    private static final int TRAP = 5;
    private static final int BREAK = 6;
    private static final int SYSCALL = 7;
    private static final int UNPREDICTABLE = 8;

    private static final int MOST_STEPS = 10_000;
    private static final int HI = 32;
    private static final int LO = 33;
    private static final int FIRST_FRACTION = 34;
    private static final int CONDITIONS = 66;

    private final Memory memory;
    private final Processor processor;

    public DelayCore(int size) {
        memory = new Memory(size);
        processor = new Processor(memory);
    }

    public int put(int address, int word) throws IllegalArgumentException {
        if (!memory.good(address, 4)) {
            throw new IllegalArgumentException("the address is not good");
        }
        int before = memory.read(address, 4);
        memory.write(address, 4, word);
        return before;
    }

    public int word(int address) throws IllegalArgumentException {
        if (!memory.good(address, 4)) {
            throw new IllegalArgumentException("the address is not good");
        }
        return memory.read(address, 4);
    }

    public int go(int address) throws IllegalArgumentException {
        if ((address & 3) != 0) {
            throw new IllegalArgumentException("the address is no multiple of 4");
        }
        int before = processor.pc;
        processor.startAt(address);
        return before;
    }

    public int set(int which, int v) throws IndexOutOfBoundsException {
        if (which < 0 || which > CONDITIONS) {
            throw new IndexOutOfBoundsException("no such register");
        }
        int before = held(which);
        hold(which, v);
        return before;
    }

    public int get(int which) throws IndexOutOfBoundsException, IllegalStateException {
        if (which < 0 || which > CONDITIONS) {
            throw new IndexOutOfBoundsException("no such register");
        }
        if (which == HI && !processor.hiLo.hiKnown || which == LO && !processor.hiLo.loKnown) {
            throw new IllegalStateException("it is unknown");
        }
        return held(which);
    }

    public int run(int n) throws IllegalArgumentException, IllegalStateException {
        if (n < 1 || n > MOST_STEPS) {
            throw new IllegalArgumentException("not 1 to 10,000 steps");
        }
        if (processor.ended != DONE) {
            throw new IllegalStateException("it has ended before");
        }
        for (int done = 0; done < n; done++) {
            processor.step();
            if (processor.ended != DONE) {
                return done;
            }
        }
        return n;
    }

    public int end() {
        return processor.ended;
    }

    public int pass() throws IllegalStateException {
        if (processor.ended != BREAK && processor.ended != SYSCALL) {
            throw new IllegalStateException("no break or syscall to pass");
        }
        processor.stepOver();
        return processor.code;
    }

    public int state(int what) throws IndexOutOfBoundsException {
        switch (what) {
            case 0:
                return processor.pc;
            case 1:
                return processor.next;
            case 2:
                return processor.slot ? 1 : 0;
            case 3:
                return processor.steps;
            case 4:
                return processor.loads;
            case 5:
                return processor.stores;
            case 6:
                return processor.branchesGone;
            case 7:
                return processor.slotsPassed;
            default:
                throw new IndexOutOfBoundsException("no such state");
        }
    }

    private int held(int which) {
        if (which < HI) {
            return processor.registers[which & 31];
        }
        if (which == HI) {
            return processor.hiLo.hi;
        }
        if (which == LO) {
            return processor.hiLo.lo;
        }
        if (which < CONDITIONS) {
            return processor.fractions.registers[which - FIRST_FRACTION & 31];
        }
        return processor.fractions.conditions;
    }

    private void hold(int which, int v) {
        if (which < HI) {
            processor.write(which, v);
        } else if (which == HI) {
            processor.hiLo.keepHi(v);
        } else if (which == LO) {
            processor.hiLo.keepLo(v);
        } else if (which < CONDITIONS) {
            processor.fractions.registers[which - FIRST_FRACTION & 31] = v;
        } else {
            processor.fractions.conditions = v & 255;
        }
    }

    /** Bytes, held as words with the highest byte first: a quarter of the elements. */
    private static final class Memory {
        private static final int LEAST = 1_024;
        private static final int MOST = 262_144;

        private final int size;
        private final int[] words;

        Memory(int wanted) {
            size = Math.max(LEAST, Math.min(MOST, wanted)) & -8;
            words = new int[size / 4];
        }

        /** Addresses have no sign, so a negative int lies far above all memory. */
        boolean good(int address, int bytes) {
            return address >= 0 && address <= size - bytes && (address & bytes - 1) == 0;
        }

        /** 1, 2 or 4 bytes at a good address, without sign. */
        int read(int address, int bytes) {
            return words[address >>> 2] >>> shift(address, bytes) & mask(bytes);
        }

        /** The lowest 1, 2 or 4 bytes of a value go to a good address. */
        void write(int address, int bytes, int value) {
            int shift = shift(address, bytes);
            int kept = words[address >>> 2] & ~(mask(bytes) << shift);
            words[address >>> 2] = kept | (value & mask(bytes)) << shift;
        }

        private static int shift(int address, int bytes) {
            return (4 - bytes - (address & 3)) * 8;
        }

        private static int mask(int bytes) {
            return -1 >>> (4 - bytes) * 8;
        }
    }

    /** HI and LO; what is unknown is held as 0, which set answers for it. */
    private static final class HiLo {
        int hi;
        int lo;
        boolean hiKnown = true;
        boolean loKnown = true;

        void keepHi(int v) {
            hi = v;
            hiKnown = true;
        }

        void keepLo(int v) {
            lo = v;
            loKnown = true;
        }

        void keep(long v) {
            keepHi((int) (v >>> 32));
            keepLo((int) v);
        }

        void forget() {
            hi = 0;
            lo = 0;
            hiKnown = false;
            loKnown = false;
        }

        long both() {
            return (long) hi << 32 | lo & 0xFFFFFFFFL;
        }

        boolean known() {
            return hiKnown && loKnown;
        }

        void divide(long a, long b) {
            if (b == 0) {
                forget();
            } else {
                keepHi((int) (a % b));
                keepLo((int) (a / b));
            }
        }
    }

    /** Registers, the way through the program, and all instructions but those on fractions. */
    private static final class Processor {
        // Opcodes, bits 31 to 26.
        private static final int SPECIAL = 0, REGIMM = 1, J = 2, JAL = 3;
        private static final int BEQ = 4, BNE = 5, BLEZ = 6, BGTZ = 7;
        private static final int ADDI = 8, ADDIU = 9, SLTI = 10, SLTIU = 11;
        private static final int ANDI = 12, ORI = 13, XORI = 14, LUI = 15, COP1 = 17;
        private static final int BEQL = 20, BNEL = 21, BLEZL = 22, BGTZL = 23, SPECIAL2 = 28;
        private static final int LB = 32, LH = 33, LWL = 34, LW = 35, LBU = 36, LHU = 37, LWR = 38;
        private static final int SB = 40, SH = 41, SWL = 42, SW = 43, SWR = 46;
        private static final int LL = 48, LWC1 = 49, PREF = 51, LDC1 = 53;
        private static final int SC = 56, SWC1 = 57, SDC1 = 61;
        // Functions of SPECIAL, bits 5 to 0.
        private static final int SLL = 0, MOVCI = 1, SRL = 2, SRA = 3, SLLV = 4, SRLV = 6, SRAV = 7;
        private static final int JR = 8, JALR = 9, MOVZ = 10, MOVN = 11;
        private static final int SYSCALL_CALL = 12, BREAK_CALL = 13, SYNC = 15;
        private static final int MFHI = 16, MTHI = 17, MFLO = 18, MTLO = 19;
        private static final int MULT = 24, MULTU = 25, DIV = 26, DIVU = 27;
        private static final int ADD = 32, ADDU = 33, SUB = 34, SUBU = 35;
        private static final int AND = 36, OR = 37, XOR = 38, NOR = 39, SLT = 42, SLTU = 43;
        // Functions of SPECIAL2.
        private static final int MADD = 0, MADDU = 1, MUL = 2, MSUB = 4, MSUBU = 5;
        private static final int CLZ = 32, CLO = 33;
        // What rs says in COP1.
        private static final int MFC1 = 0, MTC1 = 4, BC1 = 8, FIRST_FORMAT = 16;

        /** Of an instruction that has set PC and NEXT by itself. */
        private static final int MOVED = -1;
        private static final int LINK_REGISTER = 31;

        private final Memory memory;
        final int[] registers = new int[32];
        final HiLo hiLo = new HiLo();
        final FractionUnit fractions = new FractionUnit();
        int pc;
        int next = 4;
        boolean slot;
        private boolean linked;
        private int link;
        int ended;
        /** Kept apart from memory, which may be changed before the end is passed. */
        int code;
        int steps;
        int loads;
        int stores;
        int branchesGone;
        int slotsPassed;

        Processor(Memory memory) {
            this.memory = memory;
        }

        void startAt(int address) {
            move(address, address + 4, false);
            linked = false;
            ended = DONE;
        }

        void step() {
            if (!memory.good(pc, 4)) {
                ended = LOAD;
                return;
            }
            int outcome = perform(memory.read(pc, 4));
            if (outcome > DONE) {
                ended = outcome;
                return;
            }
            if (outcome != MOVED) {
                move(next, next + 4, false);
            }
            steps++;
        }

        void stepOver() {
            move(next, next + 4, false);
            steps++;
            ended = DONE;
        }

        void write(int register, int value) {
            if (register != 0) {
                registers[register & 31] = value;
            }
        }

        private void move(int newPc, int newNext, boolean intoSlot) {
            pc = newPc;
            next = newNext;
            slot = intoSlot;
        }

        /** Every handler answers DONE, MOVED or how the step ends, and checks before it changes. */
        private int perform(int w) {
            switch (opcode(w)) {
                case SPECIAL:
                    return special(w);
                case REGIMM:
                    return regimm(w);
                case SPECIAL2:
                    return special2(w);
                case COP1:
                    return rs(w) < FIRST_FORMAT ? coprocessor(w) : fractions.perform(w, registers[rt(w)]);
                case J: case JAL:
                    return jump(w);
                case BEQ: case BNE: case BLEZ: case BGTZ:
                case BEQL: case BNEL: case BLEZL: case BGTZL:
                    return branchOnRegisters(w);
                case ADDI: case ADDIU: case SLTI: case SLTIU:
                case ANDI: case ORI: case XORI: case LUI:
                    return immediate(w);
                case PREF:
                    return DONE;
                default:
                    return access(w);
            }
        }

        private int access(int w) {
            switch (opcode(w)) {
                case LB: case LH: case LW: case LBU: case LHU:
                    return load(w);
                case LWL: case LWR:
                    return loadPart(w);
                case LL:
                    return loadLinked(w);
                case LWC1:
                    return loadSingle(w);
                case LDC1:
                    return loadDouble(w);
                case SB: case SH: case SW:
                    return store(w);
                case SWL: case SWR:
                    return storePart(w);
                case SC:
                    return storeConditional(w);
                case SWC1:
                    return storeSingle(w);
                case SDC1:
                    return storeDouble(w);
                default:
                    return RESERVED;
            }
        }

        private int special(int w) {
            switch (function(w) >>> 3) {
                case 0:
                    return shiftOrMoveOnCondition(w);
                case 1:
                    return jumpOrMoveOrCall(w);
                case 2:
                    return moveHiLo(w);
                case 3:
                    return multiplyOrDivide(w);
                case 4: case 5:
                    return arithmetic(w);
                case 6:
                    return trap(function(w) & 7, registers[rs(w)], registers[rt(w)]);
                default:
                    return RESERVED;
            }
        }

        private int shiftOrMoveOnCondition(int w) {
            int value = registers[rt(w)];
            int fixed = w >>> 6 & 31;
            int variable = registers[rs(w)] & 31;
            switch (function(w)) {
                case SLL:
                    return result(rd(w), value << fixed);
                case SRL:
                    return result(rd(w), value >>> fixed);
                case SRA:
                    return result(rd(w), value >> fixed);
                case SLLV:
                    return result(rd(w), value << variable);
                case SRLV:
                    return result(rd(w), value >>> variable);
                case SRAV:
                    return result(rd(w), value >> variable);
                case MOVCI:
                    return moveIf(w, fractions.conditionAsAsked(w));
                default:
                    return RESERVED;
            }
        }

        private int jumpOrMoveOrCall(int w) {
            switch (function(w)) {
                case JR:
                    return slot ? UNPREDICTABLE : leave(registers[rs(w)]);
                case JALR:
                    return jumpAndLinkRegister(w);
                case MOVZ:
                    return moveIf(w, registers[rt(w)] == 0);
                case MOVN:
                    return moveIf(w, registers[rt(w)] != 0);
                case SYSCALL_CALL:
                    return call(w, SYSCALL);
                case BREAK_CALL:
                    return call(w, BREAK);
                case SYNC:
                    return DONE;
                default:
                    return RESERVED;
            }
        }

        private int moveIf(int w, boolean asked) {
            return asked ? result(rd(w), registers[rs(w)]) : DONE;
        }

        private int call(int w, int kind) {
            code = w >>> 6 & 0xFFFFF;
            return kind;
        }

        private int moveHiLo(int w) {
            switch (function(w)) {
                case MFHI:
                    return hiLo.hiKnown ? result(rd(w), hiLo.hi) : UNPREDICTABLE;
                case MFLO:
                    return hiLo.loKnown ? result(rd(w), hiLo.lo) : UNPREDICTABLE;
                case MTHI:
                    hiLo.keepHi(registers[rs(w)]);
                    return DONE;
                case MTLO:
                    hiLo.keepLo(registers[rs(w)]);
                    return DONE;
                default:
                    return RESERVED;
            }
        }

        private int multiplyOrDivide(int w) {
            int a = registers[rs(w)];
            int b = registers[rt(w)];
            switch (function(w)) {
                case MULT:
                    hiLo.keep((long) a * b);
                    return DONE;
                case MULTU:
                    hiLo.keep(unsigned(a) * unsigned(b));
                    return DONE;
                case DIV:
                    hiLo.divide(a, b);
                    return DONE;
                case DIVU:
                    hiLo.divide(unsigned(a), unsigned(b));
                    return DONE;
                default:
                    return RESERVED;
            }
        }

        private int arithmetic(int w) {
            int a = registers[rs(w)];
            int b = registers[rt(w)];
            switch (function(w)) {
                case ADD:
                    return exactResult(rd(w), (long) a + b);
                case ADDU:
                    return result(rd(w), a + b);
                case SUB:
                    return exactResult(rd(w), (long) a - b);
                case SUBU:
                    return result(rd(w), a - b);
                case AND:
                    return result(rd(w), a & b);
                case OR:
                    return result(rd(w), a | b);
                case XOR:
                    return result(rd(w), a ^ b);
                case NOR:
                    return result(rd(w), ~(a | b));
                case SLT:
                    return result(rd(w), a < b ? 1 : 0);
                case SLTU:
                    return result(rd(w), unsigned(a) < unsigned(b) ? 1 : 0);
                default:
                    return RESERVED;
            }
        }

        private int immediate(int w) {
            int a = registers[rs(w)];
            int low = w & 0xFFFF;
            switch (opcode(w)) {
                case ADDI:
                    return exactResult(rt(w), (long) a + signed(w));
                case ADDIU:
                    return result(rt(w), a + signed(w));
                case SLTI:
                    return result(rt(w), a < signed(w) ? 1 : 0);
                case SLTIU:
                    return result(rt(w), unsigned(a) < unsigned(signed(w)) ? 1 : 0);
                case ANDI:
                    return result(rt(w), a & low);
                case ORI:
                    return result(rt(w), a | low);
                case XORI:
                    return result(rt(w), a ^ low);
                default:
                    return result(rt(w), low << 16);
            }
        }

        private int special2(int w) {
            int a = registers[rs(w)];
            int b = registers[rt(w)];
            switch (function(w)) {
                case MADD:
                    return accumulate((long) a * b);
                case MADDU:
                    return accumulate(unsigned(a) * unsigned(b));
                case MSUB:
                    return accumulate(-((long) a * b));
                case MSUBU:
                    return accumulate(-(unsigned(a) * unsigned(b)));
                case MUL:
                    hiLo.forget();
                    return result(rd(w), a * b);
                case CLZ:
                    return result(rd(w), leadingZeros(a));
                case CLO:
                    return result(rd(w), leadingZeros(~a));
                default:
                    return RESERVED;
            }
        }

        private int accumulate(long product) {
            if (!hiLo.known()) {
                return UNPREDICTABLE;
            }
            hiLo.keep(hiLo.both() + product);
            return DONE;
        }

        /** Kinds are the lowest three bits, the same in SPECIAL and in REGIMM. */
        private int trap(int kind, int a, int b) {
            switch (kind) {
                case 0:
                    return a >= b ? TRAP : DONE;
                case 1:
                    return unsigned(a) >= unsigned(b) ? TRAP : DONE;
                case 2:
                    return a < b ? TRAP : DONE;
                case 3:
                    return unsigned(a) < unsigned(b) ? TRAP : DONE;
                case 4:
                    return a == b ? TRAP : DONE;
                case 6:
                    return a != b ? TRAP : DONE;
                default:
                    return RESERVED;
            }
        }

        private int regimm(int w) {
            switch (rt(w) >>> 2) {
                case 0: case 4:
                    return branchOnSign(w);
                case 2: case 3:
                    return trap(rt(w) & 7, registers[rs(w)], signed(w));
                default:
                    return RESERVED;
            }
        }

        private int branchOnSign(int w) {
            boolean linking = rt(w) >= 16;
            if (slot || linking && rs(w) == LINK_REGISTER) {
                return UNPREDICTABLE;
            }
            boolean below = registers[rs(w)] < 0;
            if (linking) {
                write(LINK_REGISTER, pc + 8);
            }
            boolean asksBelow = (rt(w) & 1) == 0;
            return branch(w, below == asksBelow, (rt(w) & 2) != 0);
        }

        private int branchOnRegisters(int w) {
            if (slot) {
                return UNPREDICTABLE;
            }
            int a = registers[rs(w)];
            int b = registers[rt(w)];
            boolean likely = opcode(w) >= BEQL;
            switch (opcode(w)) {
                case BEQ: case BEQL:
                    return branch(w, a == b, likely);
                case BNE: case BNEL:
                    return branch(w, a != b, likely);
                case BLEZ: case BLEZL:
                    return branch(w, a <= 0, likely);
                default:
                    return branch(w, a > 0, likely);
            }
        }

        private int branchOnCondition(int w) {
            if (slot) {
                return UNPREDICTABLE;
            }
            return branch(w, fractions.conditionAsAsked(w), (w >>> 17 & 1) != 0);
        }

        private int branch(int w, boolean goes, boolean likely) {
            if (goes) {
                return leave(next + (signed(w) << 2));
            }
            if (likely) {
                slotsPassed++;
                move(next + 4, next + 8, false);
            } else {
                move(next, next + 4, true);
            }
            return MOVED;
        }

        private int jump(int w) {
            if (slot) {
                return UNPREDICTABLE;
            }
            if (opcode(w) == JAL) {
                write(LINK_REGISTER, pc + 8);
            }
            return leave(next & 0xF0000000 | (w & 0x03FFFFFF) << 2);
        }

        private int jumpAndLinkRegister(int w) {
            if (slot || rd(w) == rs(w)) {
                return UNPREDICTABLE;
            }
            write(rd(w), pc + 8);
            return leave(registers[rs(w)]);
        }

        private int leave(int target) {
            branchesGone++;
            move(next, target, true);
            return MOVED;
        }

        private int load(int w) {
            int address = address(w);
            int bytes = bytes(w);
            if (!memory.good(address, bytes)) {
                return LOAD;
            }
            int value = memory.read(address, bytes);
            boolean withSign = opcode(w) < LBU;
            int free = 32 - 8 * bytes;
            loads++;
            return result(rt(w), withSign ? value << free >> free : value);
        }

        private int loadPart(int w) {
            int address = address(w);
            if (!memory.good(address, 1)) {
                return LOAD;
            }
            int found = memory.read(address & -4, 4);
            int before = registers[rt(w)];
            int left = (address & 3) * 8;
            int right = 24 - left;
            loads++;
            return result(rt(w), opcode(w) == LWL
                ? found << left | before & ~(-1 << left)
                : found >>> right | before & ~(-1 >>> right));
        }

        private int loadLinked(int w) {
            int address = address(w);
            if (!memory.good(address, 4)) {
                return LOAD;
            }
            linked = true;
            link = address;
            loads++;
            return result(rt(w), memory.read(address, 4));
        }

        private int loadSingle(int w) {
            int address = address(w);
            if (!memory.good(address, 4)) {
                return LOAD;
            }
            loads++;
            fractions.registers[rt(w)] = memory.read(address, 4);
            return DONE;
        }

        private int loadDouble(int w) {
            int address = address(w);
            int even = rt(w);
            if ((even & 1) != 0) {
                return UNPREDICTABLE;
            }
            if (!memory.good(address, 8)) {
                return LOAD;
            }
            loads++;
            fractions.registers[even | 1] = memory.read(address, 4);
            fractions.registers[even] = memory.read(address + 4, 4);
            return DONE;
        }

        private int store(int w) {
            int address = address(w);
            int bytes = bytes(w);
            if (!memory.good(address, bytes)) {
                return STORE;
            }
            stores++;
            memory.write(address, bytes, registers[rt(w)]);
            return DONE;
        }

        private int storePart(int w) {
            int address = address(w);
            if (!memory.good(address, 1)) {
                return STORE;
            }
            int found = memory.read(address & -4, 4);
            int value = registers[rt(w)];
            int left = (address & 3) * 8;
            int right = 24 - left;
            stores++;
            memory.write(address & -4, 4, opcode(w) == SWL
                ? value >>> left | found & ~(-1 >>> left)
                : value << right | found & ~(-1 << right));
            return DONE;
        }

        private int storeConditional(int w) {
            int address = address(w);
            if (!linked || address != link) {
                return UNPREDICTABLE;
            }
            if (!memory.good(address, 4)) {
                return STORE;
            }
            linked = false;
            stores++;
            memory.write(address, 4, registers[rt(w)]);
            return result(rt(w), 1);
        }

        private int storeSingle(int w) {
            int address = address(w);
            if (!memory.good(address, 4)) {
                return STORE;
            }
            stores++;
            memory.write(address, 4, fractions.registers[rt(w)]);
            return DONE;
        }

        private int storeDouble(int w) {
            int address = address(w);
            int even = rt(w);
            if ((even & 1) != 0) {
                return UNPREDICTABLE;
            }
            if (!memory.good(address, 8)) {
                return STORE;
            }
            stores++;
            memory.write(address, 4, fractions.registers[even | 1]);
            memory.write(address + 4, 4, fractions.registers[even]);
            return DONE;
        }

        private int coprocessor(int w) {
            switch (rs(w)) {
                case MFC1:
                    return result(rt(w), fractions.registers[rd(w)]);
                case MTC1:
                    fractions.registers[rd(w)] = registers[rt(w)];
                    return DONE;
                case BC1:
                    return branchOnCondition(w);
                default:
                    return RESERVED;
            }
        }

        private int result(int register, int value) {
            write(register, value);
            return DONE;
        }

        private int exactResult(int register, long value) {
            if (value != (int) value) {
                return OVERFLOW;
            }
            return result(register, (int) value);
        }

        private int address(int w) {
            return registers[rs(w)] + signed(w);
        }

        /** The lowest two bits of these opcodes are 0, 1 and 3 for a byte, half and word. */
        private static int bytes(int w) {
            return (opcode(w) & 3) + 1;
        }

        private static int opcode(int w) {
            return w >>> 26;
        }

        private static int function(int w) {
            return w & 63;
        }

        private static int rs(int w) {
            return w >>> 21 & 31;
        }

        private static int rt(int w) {
            return w >>> 16 & 31;
        }

        private static int rd(int w) {
            return w >>> 11 & 31;
        }

        private static int signed(int w) {
            return (short) w;
        }

        private static long unsigned(int v) {
            return v & 0xFFFFFFFFL;
        }

        private static int leadingZeros(int v) {
            int filled = v | v >>> 1;
            filled |= filled >>> 2;
            filled |= filled >>> 4;
            filled |= filled >>> 8;
            filled |= filled >>> 16;
            return 32 - Integer.bitCount(filled);
        }
    }

    /** The coprocessor: its registers, its conditions and the instructions of its formats. */
    private static final class FractionUnit {
        private static final int SINGLE = 16, DOUBLE = 17, WORD = 20;
        private static final int ADD = 0, SUB = 1, MUL = 2, DIV = 3;
        private static final int SQRT = 4, ABS = 5, MOV = 6, NEG = 7;
        private static final int ROUND_W = 12, FLOOR_W = 15;
        private static final int MOVCF = 17, MOVZ = 18, MOVN = 19;
        private static final int CVT_S = 32, CVT_D = 33, CVT_W = 36, FIRST_C = 48;

        final int[] registers = new int[32];
        int conditions;
        private final Fraction left = new Fraction();
        private final Fraction right = new Fraction();

        /** Whether the condition that bits 20 to 18 name is what bit 16 asks for. */
        boolean conditionAsAsked(int w) {
            return (conditions >>> (w >>> 18 & 7) & 1) == (w >>> 16 & 1);
        }

        /** MOVZ and MOVN look at a general register. */
        int perform(int w, int general) {
            int format = w >>> 21 & 31;
            if (format == WORD) {
                return convertFromWord(w);
            }
            if (format != SINGLE && format != DOUBLE) {
                return RESERVED;
            }
            boolean wide = format == DOUBLE;
            int function = w & 63;
            if (function <= DIV) {
                return compute(w, wide);
            }
            if (function <= NEG) {
                return change(w, wide);
            }
            if (function >= FIRST_C) {
                return compare(w, wide);
            }
            if (function >= ROUND_W && function <= FLOOR_W || function == CVT_W) {
                return convertToWord(w, wide);
            }
            if (function >= MOVCF && function <= MOVN) {
                return moveIf(w, wide, general);
            }
            if (function == (wide ? CVT_S : CVT_D)) {
                return convert(w, wide);
            }
            return RESERVED;
        }

        private int compute(int w, boolean wide) {
            if (odd(wide, fs(w) | ft(w) | fd(w))) {
                return UNPREDICTABLE;
            }
            left.unpack(bits(fs(w), wide), wide);
            right.unpack(bits(ft(w), wide), wide);
            switch (w & 63) {
                case ADD:
                    left.add(right);
                    break;
                case SUB:
                    right.negate();
                    left.add(right);
                    break;
                case MUL:
                    left.multiply(right);
                    break;
                default:
                    left.divide(right);
                    break;
            }
            return result(w, left.pack(wide), wide);
        }

        private int change(int w, boolean wide) {
            if (odd(wide, fs(w) | fd(w))) {
                return UNPREDICTABLE;
            }
            long source = bits(fs(w), wide);
            left.unpack(source, wide);
            switch (w & 63) {
                case SQRT:
                    left.root();
                    break;
                case ABS:
                    left.dropSign();
                    break;
                case MOV:
                    return result(w, source, wide);
                default:
                    left.negate();
                    break;
            }
            return result(w, left.pack(wide), wide);
        }

        private int moveIf(int w, boolean wide, int general) {
            if (odd(wide, fs(w) | fd(w))) {
                return UNPREDICTABLE;
            }
            int function = w & 63;
            boolean asked = function == MOVZ && general == 0
                || function == MOVN && general != 0
                || function == MOVCF && conditionAsAsked(w);
            return asked ? result(w, bits(fs(w), wide), wide) : DONE;
        }

        private int compare(int w, boolean wide) {
            if (odd(wide, fs(w) | ft(w))) {
                return UNPREDICTABLE;
            }
            left.unpack(bits(fs(w), wide), wide);
            right.unpack(bits(ft(w), wide), wide);
            int order = left.order(right);
            int place = w >>> 8 & 7;
            int holds = (w & order) != 0 ? 1 : 0;
            conditions = conditions & ~(1 << place) | holds << place;
            return DONE;
        }

        private int convert(int w, boolean wide) {
            if (odd(wide, fs(w)) || odd(!wide, fd(w))) {
                return UNPREDICTABLE;
            }
            left.unpack(bits(fs(w), wide), wide);
            return result(w, left.pack(!wide), !wide);
        }

        private int convertToWord(int w, boolean wide) {
            if (odd(wide, fs(w))) {
                return UNPREDICTABLE;
            }
            left.unpack(bits(fs(w), wide), wide);
            // CVT.W has the lowest bits of ROUND.W, and rounds as that does.
            registers[fd(w)] = left.toWord(w & 3);
            return DONE;
        }

        private int convertFromWord(int w) {
            int function = w & 63;
            boolean wide = function == CVT_D;
            if (!wide && function != CVT_S) {
                return RESERVED;
            }
            if (odd(wide, fd(w))) {
                return UNPREDICTABLE;
            }
            left.fromWord(registers[fs(w)]);
            return result(w, left.pack(wide), wide);
        }

        private long bits(int register, boolean wide) {
            long low = registers[register] & 0xFFFFFFFFL;
            return wide ? (long) registers[register | 1] << 32 | low : low;
        }

        private int result(int w, long bits, boolean wide) {
            registers[fd(w)] = (int) bits;
            if (wide) {
                registers[fd(w) | 1] = (int) (bits >>> 32);
            }
            return DONE;
        }

        private static boolean odd(boolean wide, int fields) {
            return wide && (fields & 1) != 0;
        }

        private static int ft(int w) {
            return w >>> 16 & 31;
        }

        private static int fs(int w) {
            return w >>> 11 & 31;
        }

        private static int fd(int w) {
            return w >>> 6 & 31;
        }
    }

    /**
     * A single or a double taken apart. One that is FINITE is mantissa * 2^(exponent - 62), its
     * mantissa's highest bit being bit 62; behind a sum, product, quotient or root bit 0 also stands
     * for all that was cut off below it, which is enough to round once and rightly.
     */
    private static final class Fraction {
        private static final int ZERO = 0;
        private static final int FINITE = 1;
        private static final int INFINITE = 2;
        private static final int NONE = 3;

        private static final int UNORDERED = 1;
        private static final int EQUAL = 2;
        private static final int LESS = 4;
        private static final int GREATER = 0;

        private static final int TO_NEAREST = 0;
        private static final int TO_ZERO = 1;
        private static final int TO_ABOVE = 2;

        private static final long NO_SINGLE = 0x7FBFFFFFL;
        private static final long NO_DOUBLE = 0x7FF7FFFFFFFFFFFFL;
        private static final int NO_WORD = 0x7FFFFFFF;

        private static final int TOP = 62;
        /** Bits below a double's last one; a single has more. */
        private static final int SPARE = 10;
        /** A double's and more: of what lies below these only whether it is nothing counts. */
        private static final int DIGITS = 56;

        private boolean negative;
        private int kind;
        private int exponent;
        private long mantissa;

        void unpack(long bits, boolean wide) {
            int width = width(wide);
            int highest = wide ? 2047 : 255;
            int biased = (int) (bits >>> width) & highest;
            long stored = bits & (1L << width) - 1;
            negative = (bits >>> (wide ? 63 : 31) & 1) != 0;
            if (biased == highest) {
                kind = stored == 0 ? INFINITE : NONE;
            } else if (biased == 0) {
                become(stored << TOP - width, lowest(wide));
            } else {
                become((stored | 1L << width) << TOP - width, biased - 1 + lowest(wide));
            }
        }

        void fromWord(int v) {
            negative = v < 0;
            become(Math.abs((long) v), TOP);
        }

        /** The sign stands already; a mantissa of 0 makes a zero. */
        private void become(long newMantissa, int newExponent) {
            kind = newMantissa == 0 ? ZERO : FINITE;
            mantissa = newMantissa;
            exponent = newExponent;
            for (int places = 32; places > 0; places /= 2) {
                if (mantissa >>> TOP + 1 - places == 0) {
                    mantissa <<= places;
                    exponent -= places;
                }
            }
        }

        long pack(boolean wide) {
            long sign = negative ? 1L << (wide ? 63 : 31) : 0;
            switch (kind) {
                case ZERO:
                    return sign;
                case FINITE:
                    return sign | rounded(wide);
                case INFINITE:
                    return sign | infinity(wide);
                default:
                    return wide ? NO_DOUBLE : NO_SINGLE;
            }
        }

        /** A carry out of the mantissa runs into the exponent, as it should, up to infinity too. */
        private long rounded(boolean wide) {
            int above = exponent - lowest(wide);
            if (exponent > 1 - lowest(wide)) {
                return infinity(wide);
            }
            int shift = TOP - width(wide) - Math.min(above, 0);
            if (shift > TOP + 1) {
                return 0;
            }
            long kept = mantissa >>> shift;
            long rest = mantissa & (1L << shift) - 1;
            if (awayFromZero(TO_NEAREST, kept, rest, 1L << shift - 1)) {
                kept++;
            }
            return ((long) Math.max(above, 0) << width(wide)) + kept;
        }

        int toWord(int way) {
            if (kind == ZERO) {
                return 0;
            }
            if (kind != FINITE || exponent > 31) {
                return NO_WORD;
            }
            // Below a half it only matters that something is there.
            boolean tiny = exponent < -1;
            long whole = tiny ? 1 : mantissa;
            int shift = tiny ? TOP + 1 : TOP - exponent;
            long kept = whole >>> shift;
            long rest = whole & (1L << shift) - 1;
            if (awayFromZero(way, kept, rest, 1L << shift - 1)) {
                kept++;
            }
            long v = negative ? -kept : kept;
            return v == (int) v ? (int) v : NO_WORD;
        }

        private boolean awayFromZero(int way, long kept, long rest, long half) {
            if (way == TO_NEAREST) {
                return rest > half || rest == half && (kept & 1) != 0;
            }
            if (way == TO_ZERO) {
                return false;
            }
            return rest != 0 && negative != (way == TO_ABOVE);
        }

        void negate() {
            negative = !negative;
        }

        void dropSign() {
            negative = false;
        }

        private void copy(Fraction other) {
            negative = other.negative;
            kind = other.kind;
            exponent = other.exponent;
            mantissa = other.mantissa;
        }

        void add(Fraction other) {
            if (kind == FINITE && other.kind == FINITE) {
                addFinite(other);
            } else if (kind == ZERO && other.kind == ZERO) {
                negative = negative && other.negative;
            } else if (kind == INFINITE && other.kind == INFINITE) {
                kind = negative == other.negative ? INFINITE : NONE;
            } else if (other.kind > kind) {
                copy(other);
            }
        }

        private void addFinite(Fraction other) {
            int top = Math.max(exponent, other.exponent);
            // The lowest bits are spare: one of them is given up for the carry.
            long a = cut(mantissa >>> 1, top - exponent);
            long b = cut(other.mantissa >>> 1, top - other.exponent);
            long sum = (negative ? -a : a) + (other.negative ? -b : b);
            negative = sum < 0;
            become(Math.abs(sum), top + 1);
        }

        void multiply(Fraction other) {
            negative = negative != other.negative;
            if (kind == FINITE && other.kind == FINITE) {
                multiplyFinite(other.mantissa, other.exponent);
            } else if (kind == ZERO && other.kind == INFINITE || kind == INFINITE && other.kind == ZERO) {
                kind = NONE;
            } else if (kind == ZERO || other.kind == ZERO) {
                kind = Math.max(kind, other.kind) == NONE ? NONE : ZERO;
            } else {
                kind = Math.max(kind, other.kind);
            }
        }

        private void multiplyFinite(long m, int e) {
            long ah = mantissa >>> 32;
            long al = mantissa & 0xFFFFFFFFL;
            long bh = m >>> 32;
            long bl = m & 0xFFFFFFFFL;
            long low = al * bl;
            long cross = ah * bl;
            long other = al * bh;
            long middle = (low >>> 32) + (cross & 0xFFFFFFFFL) + (other & 0xFFFFFFFFL);
            long high = ah * bh + (cross >>> 32) + (other >>> 32) + (middle >>> 32);
            low = middle << 32 | low & 0xFFFFFFFFL;
            // The product has 125 or 126 bits: its lowest 63 only leave bit 0 set.
            become(high << 1 | low >>> 63 | (low << 1 != 0 ? 1 : 0), exponent + e + 1);
        }

        void divide(Fraction other) {
            negative = negative != other.negative;
            if (kind == FINITE && other.kind == FINITE) {
                divideFinite(other.mantissa >>> SPARE, other.exponent);
            } else if (kind == NONE || other.kind == NONE || kind == other.kind) {
                kind = NONE;
            } else if (kind == INFINITE || other.kind == ZERO) {
                kind = INFINITE;
            } else {
                kind = ZERO;
            }
        }

        private void divideFinite(long divisor, int e) {
            long rest = mantissa >>> SPARE;
            long quotient = 0;
            for (int i = 0; i < DIGITS; i++) {
                quotient <<= 1;
                if (rest >= divisor) {
                    rest -= divisor;
                    quotient |= 1;
                }
                rest <<= 1;
            }
            become(quotient << TOP + 1 - DIGITS | (rest != 0 ? 1 : 0), exponent - e);
        }

        void root() {
            if (kind == ZERO || kind == NONE) {
                return;
            }
            if (negative) {
                kind = NONE;
            } else if (kind == FINITE) {
                rootOfFinite();
            }
        }

        /** Digit by digit, as on paper: two digits of the square for each of the root. */
        private void rootOfFinite() {
            // An odd exponent gives one of its twos to the mantissa.
            long square = mantissa >>> SPARE - (exponent & 1);
            long root = 0;
            long rest = 0;
            for (int i = 0; i < DIGITS; i++) {
                int place = TOP - SPARE - 2 * i;
                rest = rest << 2 | (place >= 0 ? square >>> place & 3 : 0);
                long trial = root << 2 | 1;
                root <<= 1;
                if (rest >= trial) {
                    rest -= trial;
                    root |= 1;
                }
            }
            become(root << TOP + 1 - DIGITS | (rest != 0 ? 1 : 0), exponent >> 1);
        }

        /** As the bits of C have it: 1 with no number among the two, 2 equal, 4 less. */
        int order(Fraction other) {
            if (kind == NONE || other.kind == NONE) {
                return UNORDERED;
            }
            int side = side();
            int otherSide = other.side();
            if (side != otherSide) {
                return side < otherSide ? LESS : GREATER;
            }
            int size = compareSize(other);
            if (size == 0) {
                return EQUAL;
            }
            return size < 0 != negative ? LESS : GREATER;
        }

        private int side() {
            return kind == ZERO ? 0 : negative ? -1 : 1;
        }

        private int compareSize(Fraction other) {
            if (kind != FINITE || other.kind != FINITE) {
                return kind - other.kind;
            }
            if (exponent != other.exponent) {
                return exponent - other.exponent;
            }
            return Long.compare(mantissa, other.mantissa);
        }

        /** Shifted right; what falls off leaves bit 0 set. */
        private static long cut(long m, int places) {
            if (places == 0) {
                return m;
            }
            if (places > TOP) {
                return 1;
            }
            return m >>> places | (m << 64 - places != 0 ? 1 : 0);
        }

        private static int width(boolean wide) {
            return wide ? 52 : 23;
        }

        private static int lowest(boolean wide) {
            return wide ? -1022 : -126;
        }

        private static long infinity(boolean wide) {
            return wide ? 0x7FF0000000000000L : 0x7F800000L;
        }
    }
}
