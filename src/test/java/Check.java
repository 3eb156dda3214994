import java.util.function.Consumer;
import java.util.function.Supplier;

/** Counts the answers of one test that are not the ones that are due. */
final class Check {
    private static final int[] SUPERFRAMES_LATER = {0, 1, 2, 4, 8};

    private final String name;
    private int asked = 0;
    private int wrong = 0;

    Check(String name) {
        this.name = name;
    }

    void equal(String what, long want, long got) {
        asked++;
        if (got != want) {
            wrong++;
            System.out.println(name + ": " + what + " answered " + got + ", due is " + want);
        }
    }

    void equal(String what, String want, String got) {
        asked++;
        if (!got.equals(want)) {
            wrong++;
            System.out.println(name + ": " + what + " answered\n  " + got + "\n due is\n  " + want);
        }
    }

    void accepted(String what, Runnable call) {
        equal(what + " throws", "nothing", thrownBy(call));
    }

    /** The call throws an exception of just this class. */
    void refused(String what, Class<? extends RuntimeException> want, Runnable call) {
        equal(what + " throws", want.getSimpleName(), thrownBy(call));
    }

    private static String thrownBy(Runnable call) {
        try {
            call.run();
            return "nothing";
        } catch (RuntimeException e) {
            return e.getClass().getSimpleName();
        }
    }

    /**
     * The call is refused, and changes nothing: neither what can be asked of the object then, nor
     * what it answers later, beside one that was made in the same way and not called so. New
     * objects each time, as nothing is promised of one behind its 512th call.
     */
    void refused(String what, Class<? extends RuntimeException> want,
            Supplier<SharedUplink> scene, Consumer<SharedUplink> call) {
        for (int later : SUPERFRAMES_LATER) {
            SharedUplink x = scene.get();
            SharedUplink twin = scene.get();
            refused(what, want, () -> call.accept(x));
            for (int i = 0; i < later; i++) {
                equal("play() after " + what, twin.play(), x.play());
            }
            equal("all that can be asked " + later + " superframes after " + what,
                    Snapshot.of(twin), Snapshot.of(x));
        }
    }

    /** An IllegalArgumentException on a new object, a busy one and one whose slots are short. */
    void refusedAsArgument(String what, Consumer<SharedUplink> call) {
        refused(what, IllegalArgumentException.class, SharedUplink::new, call);
        refused(what, IllegalArgumentException.class, Scene::busy, call);
        refused(what, IllegalArgumentException.class, Scene::crowded, call);
    }

    void end() {
        System.out.println(name + ": " + asked + " answers, " + wrong + " wrong");
        if (wrong != 0 || asked == 0) {
            System.exit(1);
        }
    }
}
