/** Counts what is not as due; a test ends with close(). */
final class Check {
    interface Call {
        long answer();
    }

    private final String test;
    private String held = "";
    private int sentences;
    private int askedBefore;
    private int asked;
    private int wrong;

    Check(String test) {
        this.test = test;
    }

    /** From here on this sentence of the document is held; one under which nothing is asked is a fault. */
    void sentence(String place, String words) {
        closeSentence();
        held = place + ", \"" + words + "\": ";
        sentences++;
        askedBefore = asked;
    }

    private void closeSentence() {
        if (sentences > 0 && asked == askedBefore) {
            tell("nothing is asked");
        }
    }

    void due(String what, long got, long want) {
        asked++;
        if (got != want) {
            tell(what + " answered " + got + " (" + Long.toHexString(got) + "), due is "
                + want + " (" + Long.toHexString(want) + ")");
        }
    }

    void due(String what, String got, String want) {
        asked++;
        if (!got.equals(want)) {
            tell(what + ": got\n  " + got + "\ndue is\n  " + want);
        }
    }

    /** The very class is due, not one below it: the machine's own exceptions are such. */
    void throwing(String what, Class<? extends RuntimeException> kind, Call call) {
        asked++;
        try {
            tell(what + " answered " + call.answer() + ", due is " + kind.getSimpleName());
        } catch (RuntimeException e) {
            if (e.getClass() != kind) {
                tell(what + " threw " + e + ", due is " + kind.getSimpleName());
            }
        }
    }

    private void tell(String line) {
        wrong++;
        if (wrong <= 50) {
            System.out.println(test + ": " + held + line);
        }
    }

    void close() {
        closeSentence();
        String of = sentences == 0 ? "" : " of " + sentences + " sentences";
        System.out.println(test + ": " + asked + " asked" + of + ", " + wrong + " wrong");
        if (wrong != 0) {
            System.exit(1);
        }
    }
}
