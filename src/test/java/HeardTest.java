/** Promises 13 and 14. */
public final class HeardTest {
    private static final Check CHECK = new Check("HeardTest");
    private static final String NOBODY = "... ... ... ... ... ... ... ... ... ...";
    private static final String ALL = ".01 231 034 214 034 214 034 21. 03. 21.";

    public static void main(String[] args) {
        theLatestSuperframeAlone();
        aMeetingInTheDoor();
        offsetsOfEightAreHeard();
        offsetsAboveEightDisturbTheSlotBehind();
        offsetsBelowMinusEightDisturbTheSlotBefore();
        theDoorDisturbsNothing();
        nothingDisturbsTheDoor();
        wrongArgumentsAreRefused();
        CHECK.end();
    }

    /**
     * Five terminals; 0, the last one, is let in by superframe 4 with this drift: its offset is
     * twice the drift in 6, which is next, and thrice in 7, as nothing was measured in 5.
     */
    static SharedUplink lateBy(int drift) {
        SharedUplink x = new SharedUplink();
        for (int t = 4; t >= 0; t--) {
            x.power(t, true);
            x.drift(t, t == 0 ? drift : 0);
            x.play();
        }
        x.play();
        return x;
    }

    private static void theLatestSuperframeAlone() {
        SharedUplink x = new SharedUplink();
        CHECK.equal("heard before the first", NOBODY, Snapshot.heard(x));
        x.power(2, true);
        x.play();
        CHECK.equal("heard in the door", "2.. ... ... ... ... ... ... ... ... ...",
                Snapshot.heard(x));
        x.play();
        CHECK.equal("heard while waiting", NOBODY, Snapshot.heard(x));
        x.play();
        CHECK.equal("heard when steady", ".2. .2. .2. .2. .2. .2. .2. .2. .2. ...",
                Snapshot.heard(x));
        x.power(2, false);
        CHECK.equal("heard when it is off since", ".2. .2. .2. .2. .2. .2. .2. .2. .2. ...",
                Snapshot.heard(x));
        x.play();
        CHECK.equal("heard when it is off", NOBODY, Snapshot.heard(x));
        CHECK.equal("missed()", 0, x.missed());
    }

    private static void aMeetingInTheDoor() {
        SharedUplink x = new SharedUplink();
        x.power(0, true);
        x.power(1, true);
        x.power(2, true);
        CHECK.equal("missed()", 0, x.missed());
        CHECK.equal("play() with three in the door", 0, x.play());
        CHECK.equal("heard", NOBODY, Snapshot.heard(x));
        CHECK.equal("missed()", 3, x.missed());
        CHECK.equal("play() with two in the door", 0, x.play());
        CHECK.equal("missed()", 5, x.missed());
        CHECK.equal("play() with one in the door", 1, x.play());
        CHECK.equal("heard in the door", 1, x.heard(0, 0));
        CHECK.equal("missed()", 5, x.missed());
    }

    private static void offsetsOfEightAreHeard() {
        for (int drift = -4; drift <= 4; drift += 8) {
            SharedUplink x = lateBy(drift);
            CHECK.equal("play()", 26, x.play());
            CHECK.equal("offset", 2 * drift, x.terminal(0, 2));
            CHECK.equal("heard", ALL, Snapshot.heard(x));
            CHECK.equal("missed()", 0, x.missed());
        }
    }

    private static void offsetsAboveEightDisturbTheSlotBehind() {
        SharedUplink x = lateBy(3);
        x.play();
        CHECK.equal("heard with an offset of 6", ALL, Snapshot.heard(x));
        CHECK.equal("play()", 16, x.play());
        CHECK.equal("offset", 9, x.terminal(0, 2));
        CHECK.equal("heard", "..1 2.1 .34 .14 .34 .14 .34 .1. .3. .1.", Snapshot.heard(x));
        CHECK.equal("missed()", 10, x.missed());
    }

    private static void offsetsBelowMinusEightDisturbTheSlotBefore() {
        SharedUplink x = lateBy(-3);
        x.play();
        CHECK.equal("heard with an offset of -6", ALL, Snapshot.heard(x));
        CHECK.equal("play()", 17, x.play());
        CHECK.equal("offset", -9, x.terminal(0, 2));
        CHECK.equal("heard", "..1 .31 .34 .14 .34 .14 .34 .1. .3. 21.", Snapshot.heard(x));
        CHECK.equal("missed()", 9, x.missed());
    }

    /** Terminal 2 has slot 1 of carrier 0, behind the door. */
    private static void theDoorDisturbsNothing() {
        SharedUplink x = Scene.steady(0, 1, 2);
        x.drift(4, 4);
        Scene.play(x, 3);
        x.power(4, true);
        x.play();
        CHECK.equal("offset in the door", 16, x.terminal(4, 2));
        CHECK.equal("heard", "401 201 201 201 201 201 201 201 201 2..", Snapshot.heard(x));
    }

    /** Terminal 2 has an offset of -9 in slot 1 of carrier 0, and disturbs itself alone. */
    private static void nothingDisturbsTheDoor() {
        SharedUplink x = new SharedUplink();
        x.power(0, true);
        x.play();
        x.power(1, true);
        x.play();
        x.power(2, true);
        x.drift(2, -3);
        Scene.play(x, 3);
        x.power(4, true);
        x.play();
        CHECK.equal("offset in the slot behind", -9, x.terminal(2, 2));
        CHECK.equal("heard", "401 .01 .01 .01 .01 .01 .01 .01 .01 ...", Snapshot.heard(x));
        CHECK.equal("missed()", 9, x.missed());
    }

    private static void wrongArgumentsAreRefused() {
        for (int[] w : Scene.wrongSlots()) {
            CHECK.refusedAsArgument("heard(" + w[0] + ", " + w[1] + ")",
                    x -> x.heard(w[0], w[1]));
        }
    }
}
