/** Promises 13 and 14. */
public final class HeardTest {
    private static final Check CHECK = new Check("HeardTest");
    private static final String NOBODY = "... ... ... ... ... ... ... ... ... ...";
    private static final String ALL = ".01 231 034 214 034 214 034 21. 03. 21.";

    public static void main(String[] args) {
        theLatestSuperframeAlone();
        aMeetingInTheDoor();
        offsetsOfEightAreHeard();
        offsetsAboveEightDisturbTheSlotBehind();
        offsetsBelowMinusEightDisturbTheSlotBefore();
        theDoorDisturbsNothing();
        nothingDisturbsTheDoor();
        itsOwnOffsetOfEight();
        itsOwnOffsetOfNine();
        noSlotBeforeTheFirst();
        noSlotBehindTheLast();
        otherCarriersAreNotDisturbed();
        oneThatIsOffDisturbsNobody();
        anyOffsetInTheDoor();
        oneAloneInTheDoor();
        missedCountsBurstsAlone();
        thereAreTenSlotsAndThreeCarriers();
        CHECK.end();
    }

    /**
     * Five terminals; 0, the last one, is let in by superframe 4 with this drift: its offset is
     * twice the drift in 6, which is next, and thrice in 7, as nothing was measured in 5.
     */
    static SharedUplink lateBy(int drift) {
        return late(0, drift);
    }

    private static SharedUplink late(int last, int drift) {
        SharedUplink x = new SharedUplink();
        for (int t = 4; t >= 0; t--) {
            if (t != last) {
                x.power(t, true);
                x.play();
            }
        }
        x.power(last, true);
        x.drift(last, drift);
        Scene.play(x, 2);
        return x;
    }

    private static void theLatestSuperframeAlone() {
        SharedUplink x = new SharedUplink();
        CHECK.equal("heard before the first", NOBODY, Snapshot.heard(x));
        x.power(2, true);
        x.play();
        CHECK.equal("heard in the door", "2.. ... ... ... ... ... ... ... ... ...",
                Snapshot.heard(x));
        x.play();
        CHECK.equal("heard while waiting", NOBODY, Snapshot.heard(x));
        x.play();
        CHECK.equal("heard when steady", ".2. .2. .2. .2. .2. .2. .2. .2. .2. ...",
                Snapshot.heard(x));
        x.power(2, false);
        CHECK.equal("heard when it is off since", ".2. .2. .2. .2. .2. .2. .2. .2. .2. ...",
                Snapshot.heard(x));
        x.play();
        CHECK.equal("heard when it is off", NOBODY, Snapshot.heard(x));
        CHECK.equal("missed()", 0, x.missed());
    }

    private static void aMeetingInTheDoor() {
        SharedUplink x = new SharedUplink();
        x.power(0, true);
        x.power(1, true);
        x.power(2, true);
        CHECK.equal("missed()", 0, x.missed());
        CHECK.equal("play() with three in the door", 0, x.play());
        CHECK.equal("heard", NOBODY, Snapshot.heard(x));
        CHECK.equal("missed()", 3, x.missed());
        CHECK.equal("play() with two in the door", 0, x.play());
        CHECK.equal("missed()", 5, x.missed());
        CHECK.equal("play() with one in the door", 1, x.play());
        CHECK.equal("heard in the door", 1, x.heard(0, 0));
        CHECK.equal("missed()", 5, x.missed());
    }

    private static void offsetsOfEightAreHeard() {
        for (int drift = -4; drift <= 4; drift += 8) {
            SharedUplink x = lateBy(drift);
            CHECK.equal("play()", 26, x.play());
            CHECK.equal("offset", 2 * drift, x.terminal(0, 2));
            CHECK.equal("heard", ALL, Snapshot.heard(x));
            CHECK.equal("missed()", 0, x.missed());
        }
    }

    private static void offsetsAboveEightDisturbTheSlotBehind() {
        SharedUplink x = lateBy(3);
        x.play();
        CHECK.equal("heard with an offset of 6", ALL, Snapshot.heard(x));
        CHECK.equal("play()", 16, x.play());
        CHECK.equal("offset", 9, x.terminal(0, 2));
        CHECK.equal("heard", "..1 2.1 .34 .14 .34 .14 .34 .1. .3. .1.", Snapshot.heard(x));
        CHECK.equal("missed()", 10, x.missed());
    }

    private static void offsetsBelowMinusEightDisturbTheSlotBefore() {
        SharedUplink x = lateBy(-3);
        x.play();
        CHECK.equal("heard with an offset of -6", ALL, Snapshot.heard(x));
        CHECK.equal("play()", 17, x.play());
        CHECK.equal("offset", -9, x.terminal(0, 2));
        CHECK.equal("heard", "..1 .31 .34 .14 .34 .14 .34 .1. .3. 21.", Snapshot.heard(x));
        CHECK.equal("missed()", 9, x.missed());
    }

    /** Terminal 2 has slot 1 of carrier 0, behind the door. */
    private static void theDoorDisturbsNothing() {
        SharedUplink x = Scene.steady(0, 1, 2);
        x.drift(4, 4);
        Scene.play(x, 3);
        x.power(4, true);
        x.play();
        CHECK.equal("offset in the door", 16, x.terminal(4, 2));
        CHECK.equal("heard", "401 201 201 201 201 201 201 201 201 2..", Snapshot.heard(x));
    }

    /** Terminal 2 has an offset of -9 in slot 1 of carrier 0, and disturbs itself alone. */
    private static void nothingDisturbsTheDoor() {
        SharedUplink x = new SharedUplink();
        x.power(0, true);
        x.play();
        x.power(1, true);
        x.play();
        x.power(2, true);
        x.drift(2, -3);
        Scene.play(x, 3);
        x.power(4, true);
        x.play();
        CHECK.equal("offset in the slot behind", -9, x.terminal(2, 2));
        CHECK.equal("heard", "401 .01 .01 .01 .01 .01 .01 .01 .01 ...", Snapshot.heard(x));
        CHECK.equal("missed()", 9, x.missed());
    }

    /** Alone, with a drift from the start: its offset is twice that in superframe 2. */
    private static SharedUplink alone(int drift) {
        SharedUplink x = new SharedUplink();
        x.power(0, true);
        x.drift(0, drift);
        Scene.play(x, 2);
        return x;
    }

    /** "if the offset is -8 .. 8". */
    private static void itsOwnOffsetOfEight() {
        for (int drift = -4; drift <= 4; drift += 8) {
            SharedUplink x = alone(drift);
            CHECK.equal("play() with 8", 9, x.play());
            CHECK.equal("offset", 2 * drift, x.terminal(0, 2));
            CHECK.equal("missed()", 0, x.missed());
        }
    }

    private static void itsOwnOffsetOfNine() {
        for (int drift = -3; drift <= 3; drift += 6) {
            SharedUplink x = alone(drift);
            CHECK.equal("play() with 6", 9, x.play());
            CHECK.equal("play() with 9", 0, x.play());
            CHECK.equal("offset", 3 * drift, x.terminal(0, 2));
            CHECK.equal("heard", NOBODY, Snapshot.heard(x));
            CHECK.equal("missed()", 9, x.missed());
        }
    }

    /** Terminal 0 with -9 has slot 0 of carrier 1: slot 9 of it, terminal 1's, is heard. */
    private static void noSlotBeforeTheFirst() {
        SharedUplink x = late(0, -3);
        x.play();
        x.play();
        CHECK.equal("offset", -9, x.terminal(0, 2));
        CHECK.equal("plan(0, 1, 0)", 0, x.plan(0, 1, 0));
        CHECK.equal("heard(0, 1)", SharedUplink.NONE, x.heard(0, 1));
        CHECK.equal("heard(9, 1)", 1, x.heard(9, 1));
    }

    /** Terminal 1 with 9 has slot 9 of carrier 1: slot 0 of it, terminal 0's, is heard. */
    private static void noSlotBehindTheLast() {
        SharedUplink x = late(1, 3);
        x.play();
        CHECK.equal("play()", 16, x.play());
        CHECK.equal("offset", 9, x.terminal(1, 2));
        CHECK.equal("plan(9, 1, 0)", 1, x.plan(9, 1, 0));
        CHECK.equal("heard", ".0. 23. 03. 2.4 0.4 2.4 0.4 2.. 0.. 2..", Snapshot.heard(x));
    }

    /**
     * "of the same carrier": two alone, each in its own carrier, one of them with 9 or -9; and the
     * slots two away, and the same slot, are not disturbed either.
     */
    private static void otherCarriersAreNotDisturbed() {
        for (int drift = -3; drift <= 3; drift += 6) {
            SharedUplink x = Scene.steady(1);
            x.power(0, true);
            x.drift(0, drift);
            Scene.play(x, 3);
            CHECK.equal("play()", 9, x.play());
            CHECK.equal("offset", 3 * drift, x.terminal(0, 2));
            CHECK.equal("heard", "..1 ..1 ..1 ..1 ..1 ..1 ..1 ..1 ..1 ...", Snapshot.heard(x));
        }
    }

    /** Its places are in the plan still, but no burst is in them. */
    private static void oneThatIsOffDisturbsNobody() {
        SharedUplink x = lateBy(3);
        x.play();
        x.power(0, false);
        CHECK.equal("play()", 21, x.play());
        CHECK.equal("offset", 9, x.terminal(0, 2));
        CHECK.equal("missed()", 0, x.missed());
    }

    /** In the door the offset does not count: 9 and -9, and far more. */
    private static void anyOffsetInTheDoor() {
        for (int sign = -1; sign <= 1; sign += 2) {
            for (int superframes : new int[] {2, 3, 100}) {
                SharedUplink x = new SharedUplink();
                x.drift(0, 3 * sign);
                Scene.play(x, superframes - 1);
                x.power(0, true);
                CHECK.equal("play()", 1, x.play());
                CHECK.equal("offset", 3 * sign * superframes, x.terminal(0, 2));
                CHECK.equal("heard in the door", 0, x.heard(0, 0));
            }
        }
    }

    /** "if it is the only one there": none, one, two. */
    private static void oneAloneInTheDoor() {
        int[] heard = {SharedUplink.NONE, 0, SharedUplink.NONE, SharedUplink.NONE};
        int[] missed = {0, 0, 2, 3};
        for (int bursts = 0; bursts <= 3; bursts++) {
            SharedUplink x = new SharedUplink();
            for (int t = 0; t < bursts; t++) {
                x.power(t, true);
            }
            CHECK.equal("play() with " + bursts, bursts == 1 ? 1 : 0, x.play());
            CHECK.equal("heard in the door", heard[bursts], x.heard(0, 0));
            CHECK.equal("missed()", missed[bursts], x.missed());
        }
    }

    /** "bursts that were sent": slots that are lost or empty are not missed, and it adds up. */
    private static void missedCountsBurstsAlone() {
        SharedUplink x = Scene.steady(0);
        CHECK.equal("missed()", 0, x.missed());
        x.lose(0, 0);
        x.lose(9, 1);
        x.lose(4, 2);
        CHECK.equal("play()", 9, x.play());
        CHECK.equal("missed()", 0, x.missed());
        x.lose(8, 1);
        CHECK.equal("missed() before the loss", 0, x.missed());
        x.play();
        CHECK.equal("missed()", 1, x.missed());
        Scene.playUnheard(x, 1);
        CHECK.equal("missed()", 10, x.missed());
        x.power(1, true);
        x.power(2, true);
        x.play();
        CHECK.equal("missed(), in the door, too", 12, x.missed());
    }

    /** "IllegalArgumentException: there is none." The first and last of each there are. */
    private static void thereAreTenSlotsAndThreeCarriers() {
        SharedUplink y = new SharedUplink();
        CHECK.equal("heard(0, 0)", SharedUplink.NONE, y.heard(0, 0));
        CHECK.equal("heard(0, 2)", SharedUplink.NONE, y.heard(0, 2));
        CHECK.equal("heard(9, 0)", SharedUplink.NONE, y.heard(9, 0));
        CHECK.equal("heard(9, 2)", SharedUplink.NONE, y.heard(9, 2));
        for (int[] w : Scene.wrongSlots()) {
            CHECK.refusedAsArgument("heard(" + w[0] + ", " + w[1] + ")",
                    x -> x.heard(w[0], w[1]));
        }
    }
}
