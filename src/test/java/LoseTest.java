/** Promise 6. */
public final class LoseTest {
    private static final Check CHECK = new Check("LoseTest");

    public static void main(String[] args) {
        aPlaceIsLostOnce();
        everySlotCanBeLost();
        theDoorIsLost();
        aMeetingInALostDoor();
        aLossWithoutBurstIsOver();
        aLostBurstDisturbsAllTheSame();
        lostForOneSuperframeAlone();
        allSlotsLostAtOnce();
        thereAreTenSlotsAndThreeCarriers();
        CHECK.end();
    }

    private static void aPlaceIsLostOnce() {
        SharedUplink x = Scene.steady(0);
        x.lose(3, 1);
        x.lose(3, 1);
        CHECK.equal("play() with one lost", 8, x.play());
        CHECK.equal("heard(3, 1)", SharedUplink.NONE, x.heard(3, 1));
        CHECK.equal("heard(2, 1)", 0, x.heard(2, 1));
        CHECK.equal("missed()", 1, x.missed());
        CHECK.equal("play() behind that", 9, x.play());
        CHECK.equal("missed()", 1, x.missed());
    }

    private static void everySlotCanBeLost() {
        for (int slot = 0; slot < 10; slot++) {
            for (int carrier = 0; carrier < 3; carrier++) {
                SharedUplink x = Scene.five();
                int due = 26 - (x.plan(slot, carrier, 0) == SharedUplink.NONE ? 0 : 1);
                x.lose(slot, carrier);
                CHECK.equal("play() without " + slot + ", " + carrier, due, x.play());
                CHECK.equal("heard", SharedUplink.NONE, x.heard(slot, carrier));
                CHECK.equal("play() behind that", 26, x.play());
            }
        }
    }

    /** One burst that is not heard stays asking with level 0; all other levels go down. */
    private static void theDoorIsLost() {
        SharedUplink x = new SharedUplink();
        x.power(0, true);
        x.power(1, true);
        x.play();
        CHECK.equal("level of 0", 1, x.terminal(0, 1));
        CHECK.equal("level of 1", 0, x.terminal(1, 1));
        x.lose(0, 0);
        CHECK.equal("play() with the door lost", 0, x.play());
        CHECK.equal("heard in the door", SharedUplink.NONE, x.heard(0, 0));
        CHECK.equal("level of 0", 0, x.terminal(0, 1));
        CHECK.equal("level of 1", 0, x.terminal(1, 1));
        CHECK.equal("1 is not in", 0, x.centre(1, 0));
        CHECK.equal("missed()", 3, x.missed());
    }

    private static void aMeetingInALostDoor() {
        SharedUplink x = new SharedUplink();
        x.power(0, true);
        x.power(1, true);
        x.lose(0, 0);
        x.play();
        CHECK.equal("level of 0", 1, x.terminal(0, 1));
        CHECK.equal("level of 1", 0, x.terminal(1, 1));
        CHECK.equal("missed()", 2, x.missed());
    }

    private static void aLossWithoutBurstIsOver() {
        SharedUplink x = new SharedUplink();
        x.lose(0, 0);
        x.play();
        x.power(2, true);
        CHECK.equal("play() behind the loss", 1, x.play());
        CHECK.equal("missed()", 0, x.missed());
    }

    /** Terminal 0 has an offset of 9 in superframe 7, and slot 0 of carrier 1. */
    private static void aLostBurstDisturbsAllTheSame() {
        SharedUplink x = HeardTest.lateBy(3);
        x.play();
        x.lose(0, 1);
        CHECK.equal("play()", 16, x.play());
        CHECK.equal("heard(1, 1)", SharedUplink.NONE, x.heard(1, 1));
        CHECK.equal("missed()", 10, x.missed());
    }

    /** "in the next superframe (in that alone)": not in the one behind it, nor then again. */
    private static void lostForOneSuperframeAlone() {
        SharedUplink x = Scene.steady(0);
        x.lose(0, 1);
        int[] due = {8, 9, 9, 9};
        for (int answer : due) {
            CHECK.equal("play() in " + x.played(), answer, x.play());
        }
        x.lose(0, 1);
        CHECK.equal("play() with it lost anew", 8, x.play());
    }

    private static void allSlotsLostAtOnce() {
        SharedUplink x = Scene.five();
        for (int slot = 0; slot < 10; slot++) {
            for (int carrier = 0; carrier < 3; carrier++) {
                x.lose(slot, carrier);
            }
        }
        CHECK.equal("play() with all lost", 0, x.play());
        CHECK.equal("missed()", 26, x.missed());
        CHECK.equal("play() behind that", 26, x.play());
        CHECK.equal("missed()", 26, x.missed());
    }

    /** "IllegalArgumentException: there is none." The first and last of each there are. */
    private static void thereAreTenSlotsAndThreeCarriers() {
        SharedUplink y = new SharedUplink();
        CHECK.accepted("lose(0, 0)", () -> y.lose(0, 0));
        CHECK.accepted("lose(0, 2)", () -> y.lose(0, 2));
        CHECK.accepted("lose(9, 0)", () -> y.lose(9, 0));
        CHECK.accepted("lose(9, 2)", () -> y.lose(9, 2));
        for (int[] w : Scene.wrongSlots()) {
            CHECK.refusedAsArgument("lose(" + w[0] + ", " + w[1] + ")", x -> x.lose(w[0], w[1]));
        }
    }
}
