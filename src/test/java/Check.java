/** Counts the answers of one test that are not the ones that are due. */
final class Check {
    interface Call {
        void run();
    }

    private final String name;
    private int asked = 0;
    private int wrong = 0;

    Check(String name) {
        this.name = name;
    }

    void equal(String what, long want, long got) {
        asked++;
        if (got != want) {
            wrong++;
            System.out.println(name + ": " + what + " answered " + got + ", due is " + want);
        }
    }

    void equal(String what, String want, String got) {
        asked++;
        if (!got.equals(want)) {
            wrong++;
            System.out.println(name + ": " + what + " answered\n  " + got + "\n due is\n  " + want);
        }
    }

    /** The call throws an exception of just this class. */
    void refused(String what, Class<? extends RuntimeException> want, Call call) {
        String got = "nothing";
        try {
            call.run();
        } catch (RuntimeException e) {
            got = e.getClass().getSimpleName();
        }
        equal(what + " throws", want.getSimpleName(), got);
    }

    /** The call is refused, and nothing that can be asked of the object is another one then. */
    void refused(SharedUplink x, String what, Class<? extends RuntimeException> want, Call call) {
        String before = Snapshot.of(x);
        refused(what, want, call);
        equal("all that can be asked after " + what, before, Snapshot.of(x));
    }

    void end() {
        System.out.println(name + ": " + asked + " answers, " + wrong + " wrong");
        if (wrong != 0 || asked == 0) {
            System.exit(1);
        }
    }
}
