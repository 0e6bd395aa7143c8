/** Terms, steps and slots: a method for each sentence, with its words in its remark. */
public final class StepTermsTest {
    private static final Check CHECK = new Check("StepTermsTest");
    private static final String TERMS = "Terms, STEP";
    private static final int LAST = 1020;

    /** Not one of them goes, with 1 in register 1, 0 in all others and conditions 0 and 1 being 0 and 1. */
    private static final int[] NOT_GOING = {Asm.beq(1, 0, 4), Asm.bne(1, 1, 4), Asm.immediate(6, 1, 0, 4),
        Asm.immediate(7, 0, 0, 4), Asm.regimm(0, 1, 4), Asm.regimm(1, 2, 4), Asm.regimm(16, 1, 4), Asm.regimm(17, 2, 4),
        Asm.bc1(true, false, 0, 4), Asm.bc1(false, false, 1, 4)};
    private static final int[] LIKELY_NOT_GOING = {Asm.immediate(20, 1, 0, 4), Asm.bnel(1, 1, 4),
        Asm.immediate(22, 1, 0, 4), Asm.immediate(23, 0, 0, 4), Asm.regimm(2, 1, 4), Asm.regimm(3, 2, 4),
        Asm.regimm(18, 1, 4), Asm.regimm(19, 2, 4), Asm.bc1(true, true, 0, 4), Asm.bc1(false, true, 1, 4)};
    /** All of them go, with the same registers, to 20 bytes behind themselves, if they lie at 0. */
    private static final int[] GOING = {Asm.beq(1, 1, 4), Asm.bne(1, 0, 4), Asm.immediate(6, 0, 0, 4),
        Asm.immediate(7, 1, 0, 4), Asm.regimm(0, 2, 4), Asm.regimm(1, 1, 4), Asm.regimm(16, 2, 4), Asm.regimm(17, 1, 4),
        Asm.bc1(true, false, 1, 4), Asm.bc1(false, false, 0, 4), Asm.immediate(20, 1, 1, 4), Asm.bnel(1, 0, 4),
        Asm.immediate(22, 0, 0, 4), Asm.immediate(23, 1, 0, 4), Asm.regimm(2, 2, 4), Asm.regimm(3, 1, 4),
        Asm.regimm(18, 2, 4), Asm.regimm(19, 1, 4), Asm.bc1(true, true, 1, 4), Asm.bc1(false, true, 0, 4),
        Asm.j(20), Asm.jal(20), Asm.jr(4), Asm.jalr(5, 4)};

    public static void main(String[] args) {
        pcAndNext();
        roundTheTop();
        targets();
        slots();
        passedOver();
        passedOverAtTheEdge();
        CHECK.close();
    }

    private static Rig rig(int address, int... code) {
        Rig rig = new Rig().code(address, code).with(1, 1).with(2, -1).with(4, 20).with(Rig.CONDITIONS, 2);
        rig.core.go(address);
        return rig;
    }

    private static void way(String what, Rig rig, int pc, int next, int slot) {
        CHECK.due(what + ": PC", rig.core.state(0), pc);
        CHECK.due(what + ": NEXT", rig.core.state(1), next);
        CHECK.due(what + ": slot", rig.core.state(2), slot);
    }

    /** "Then PC is what NEXT was, and NEXT that and 4": from the first word to the one behind the last. */
    private static void pcAndNext() {
        CHECK.sentence(TERMS, "A STEP does the word at PC. Then PC is what NEXT was, and NEXT that and 4");
        Rig first = rig(0, Asm.addiu(3, 0, 5));
        CHECK.due("step", first.core.run(1), 1);
        CHECK.due("the word at PC", first.core.get(3), 5);
        way("behind the first", first, 4, 8, 0);
        Rig last = rig(LAST, Asm.addiu(3, 0, 5));
        CHECK.due("step", last.core.run(2), 1);
        CHECK.due("the last word is done", last.core.get(3), 5);
        CHECK.due("none is behind it", last.core.end(), 1);
        way("behind the last", last, 1024, 1028, 0);
    }

    /** "(modulo 2^32)": a target at the top makes NEXT go round with the slot's step, also when it is passed. */
    private static void roundTheTop() {
        CHECK.sentence(TERMS, "NEXT that and 4 (modulo 2^32)");
        int[][] targets = {{-4, 0}, {-1, 3}, {-2, 2}, {-3, 1}, {-8, -4}, {0x7FFFFFFC, 0x80000000}};
        for (int[] target : targets) {
            Rig jump = rig(0, Asm.jr(3), Asm.NOP).with(3, target[0]);
            CHECK.due("jump and slot", jump.core.run(3), 2);
            way("JR to " + target[0], jump, target[0], target[1], 0);
            CHECK.due("no step there", jump.core.end(), 1);
            Rig passed = rig(0, Asm.jr(3), Asm.breakWith(9)).with(3, target[0]);
            CHECK.due("jump", passed.core.run(3), 1);
            CHECK.due("pass", passed.core.pass(), 9);
            way("passed in the slot of JR to " + target[0], passed, target[0], target[1], 0);
        }
        Rig below = rig(0, Asm.beq(0, 0, -2), Asm.NOP);
        CHECK.due("a branch below 0", below.core.run(2), 2);
        way("below 0", below, -4, 0, 0);
    }

    /** "of a branch that goes, or a jump, NEXT is the target: so the instruction behind it is done ahead of it". */
    private static void targets() {
        CHECK.sentence(TERMS, "of a branch that goes, or a jump, NEXT is the target: so the instruction behind it is"
            + " done ahead of it.");
        for (int word : GOING) {
            Rig rig = rig(0, word, Asm.addiu(6, 6, 1), Asm.addiu(7, 7, 1)).code(20, Asm.special(33, 6, 6, 8, 0));
            String what = Integer.toHexString(word);
            CHECK.due(what, rig.core.run(1), 1);
            way(what, rig, 4, 20, 1);
            CHECK.due(what + ": went", rig.core.state(6), 1);
            CHECK.due(what + ": slot and target", rig.core.run(2), 2);
            CHECK.due(what + ": the slot was done first", rig.core.get(8), 2);
            CHECK.due(what + ": what is behind the slot was not", rig.core.get(7), 0);
            way(what + " behind the target", rig, 24, 28, 0);
        }
        Rig atEdge = rig(LAST, Asm.j(0));
        CHECK.due("a jump at memory's end", atEdge.core.run(2), 1);
        way("its slot is not there", atEdge, 1024, 0, 1);
        CHECK.due("its end", atEdge.core.end(), 1);
        Rig itself = rig(8, Asm.beq(0, 0, -1), Asm.addiu(3, 3, 1));
        CHECK.due("a branch to itself", itself.core.run(7), 7);
        CHECK.due("its slots", itself.core.get(3), 3);
        Rig intoSlot = rig(8, Asm.beq(0, 0, 0), Asm.addiu(3, 3, 1));
        CHECK.due("a branch to its slot", intoSlot.core.run(3), 3);
        CHECK.due("which is done twice", intoSlot.core.get(3), 2);
        way("then it goes on", intoSlot, 16, 20, 0);
    }

    /** "What is behind a branch, whether it goes or not, or a jump is its SLOT.": one step long. */
    private static void slots() {
        CHECK.sentence(TERMS, "What is behind a branch, whether it goes or not, or a jump is its SLOT.");
        for (int word : NOT_GOING) {
            Rig rig = rig(0, word, Asm.addiu(6, 6, 1));
            String what = Integer.toHexString(word);
            CHECK.due(what, rig.core.run(1), 1);
            way(what + " does not go", rig, 4, 8, 1);
            CHECK.due(what + ": none went", rig.core.state(6), 0);
            CHECK.due(what + ": slot", rig.core.run(1), 1);
            CHECK.due(what + ": done", rig.core.get(6), 1);
            way(what + " behind its slot", rig, 8, 12, 0);
        }
        for (int word : GOING) {
            Rig rig = rig(0, word, Asm.NOP).behind(1);
            CHECK.due("a slot", rig.core.state(2), 1);
            rig.core.run(1);
            CHECK.due("a slot no more", rig.core.state(2), 0);
        }
        Rig ended = rig(0, Asm.beq(0, 1, 4), -1);
        CHECK.due("an end in a slot", ended.endAfter(2), 3);
        way("it stays a slot", ended, 4, 8, 1);
        CHECK.due("no slot behind a step", rig(0, Asm.NOP).behind(1).core.state(2), 0);
    }

    /** "Of a LIKELY branch that does not go the slot is PASSED OVER: PC becomes NEXT and 4." */
    private static void passedOver() {
        CHECK.sentence(TERMS, "Of a LIKELY branch that does not go the slot is PASSED OVER: PC becomes NEXT and 4.");
        for (int word : LIKELY_NOT_GOING) {
            // What is passed over would end, were it done; what is behind it is a branch and no slot's.
            Rig rig = rig(0, word, -1, Asm.j(64));
            String what = Integer.toHexString(word);
            CHECK.due(what, rig.core.run(1), 1);
            way(what + " does not go", rig, 8, 12, 0);
            CHECK.due(what + ": one step", rig.core.state(3), 1);
            CHECK.due(what + ": none went", rig.core.state(6), 0);
            CHECK.due(what + ": one slot passed over", rig.core.state(7), 1);
            CHECK.due(what + ": a jump behind it", rig.core.run(1), 1);
            way(what + " and the jump", rig, 12, 64, 1);
        }
    }

    /** The same sentence at memory's end: a slot that is not there is passed over like any other. */
    private static void passedOverAtTheEdge() {
        CHECK.sentence(TERMS, "the slot is PASSED OVER: PC becomes NEXT and 4");
        for (int word : LIKELY_NOT_GOING) {
            for (int address : new int[] {LAST, LAST - 4, LAST - 8}) {
                Rig rig = rig(address, word);
                CHECK.due("at " + address, rig.core.run(1), 1);
                way("at " + address, rig, address + 8, address + 12, 0);
                CHECK.due("then at " + (address + 8), rig.core.run(1), address + 8 < 1024 ? 1 : 0);
                CHECK.due("its end", rig.core.end(), address + 8 < 1024 ? 0 : 1);
            }
        }
    }
}
