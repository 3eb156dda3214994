/** Promise 10. */
public final class CentreTest {
    private static final Check CHECK = new Check("CentreTest");

    public static void main(String[] args) {
        theDoorLetsIn();
        sixSilentSuperframes();
        needsAreWhatIsLeft();
        theDoorClearsNeeds();
        needsStayWhenItIsNotIn();
        arrivalIsInOrder();
        aFailedOneIsPassed();
        aLaterOneArrivesBehindAFailedOne();
        wrongArgumentsAreRefused();
        CHECK.end();
    }

    private static void centre(SharedUplink x, int expected, int arrived, int latest) {
        String when = " behind superframe " + (x.played() - 1);
        CHECK.equal("expected" + when, expected, x.centre(0, 2));
        CHECK.equal("arrived" + when, arrived, x.centre(0, 3));
        CHECK.equal("latest" + when, latest, x.centre(0, 4));
    }

    private static void theDoorLetsIn() {
        SharedUplink x = new SharedUplink();
        x.power(0, true);
        CHECK.equal("in", 0, x.centre(0, 0));
        x.play();
        CHECK.equal("in", 1, x.centre(0, 0));
        CHECK.equal("another is in", 0, x.centre(1, 0));
    }

    /** Heard in superframe 2 at last: in behind 8, not behind 9. */
    private static void sixSilentSuperframes() {
        SharedUplink x = Scene.steady(0);
        x.power(0, false);
        for (int k = 3; k <= 8; k++) {
            x.play();
            CHECK.equal("in", 1, x.centre(0, 0));
            CHECK.equal("places", 9, x.places(0, 1));
        }
        x.play();
        CHECK.equal("in", 0, x.centre(0, 0));
        CHECK.equal("places made before", 9, x.places(0, 0));
        CHECK.equal("places", 0, x.places(0, 1));
    }

    private static void needsAreWhatIsLeft() {
        SharedUplink x = Scene.steady(0);
        x.send(0, 6);
        x.send(0, 6);
        x.send(0, 6);
        CHECK.equal("needs", 0, x.centre(0, 1));
        x.play();
        CHECK.equal("needs", 9, x.centre(0, 1));
        x.lose(8, 1);
        x.play();
        CHECK.equal("needs by the last that was heard", 1, x.centre(0, 1));
        x.send(0, 3);
        Scene.playUnheard(x, 1);
        CHECK.equal("needs when nothing was heard", 1, x.centre(0, 1));
        x.play();
        CHECK.equal("needs", 0, x.centre(0, 1));
    }

    private static void theDoorClearsNeeds() {
        SharedUplink x = Scene.steady(0);
        x.send(0, 6);
        x.send(0, 6);
        x.play();
        CHECK.equal("needs", 3, x.centre(0, 1));
        x.power(0, false);
        CHECK.equal("needs", 3, x.centre(0, 1));
        x.power(0, true);
        x.play();
        CHECK.equal("needs", 0, x.centre(0, 1));
        centre(x, 2, 1, 1);
    }

    private static void needsStayWhenItIsNotIn() {
        SharedUplink x = Scene.steady(0);
        x.send(0, 6);
        x.send(0, 6);
        x.play();
        x.power(0, false);
        Scene.play(x, 7);
        CHECK.equal("in", 0, x.centre(0, 0));
        CHECK.equal("needs", 3, x.centre(0, 1));
        centre(x, 2, 1, 1);
    }

    private static void arrivalIsInOrder() {
        SharedUplink x = Scene.steady(0);
        x.send(0, 2);
        x.send(0, 3);
        x.send(0, 1);
        centre(x, 1, 0, 0);
        Scene.playFirstLost(x);
        centre(x, 1, 0, 0);
        x.play();
        centre(x, 1, 0, 0);
        x.play();
        centre(x, 4, 3, 3);
    }

    private static void aFailedOneIsPassed() {
        SharedUplink x = Scene.steady(0);
        x.send(0, 3);
        for (int i = 0; i < 4; i++) {
            Scene.playFirstLost(x);
            x.play();
            centre(x, 1, 0, 0);
        }
        x.play();
        centre(x, 2, 0, 0);
        CHECK.equal("number", 2, x.send(0, 3));
        x.play();
        centre(x, 3, 1, 2);
    }

    /** The second one's cells all came while the first was tried; it counts when that failed. */
    private static void aLaterOneArrivesBehindAFailedOne() {
        SharedUplink x = Scene.steady(0);
        x.send(0, 2);
        x.send(0, 2);
        for (int i = 0; i < 4; i++) {
            Scene.playFirstLost(x);
            x.play();
            centre(x, 1, 0, 0);
        }
        x.play();
        CHECK.equal("base", 3, x.terminal(0, 5));
        centre(x, 3, 1, 2);
    }

    private static void wrongArgumentsAreRefused() {
        int[][] wrong = {
            {-1, 0}, {5, 0}, {0, -1}, {0, 5}, {4, 5}, {-1, 5}, {Integer.MIN_VALUE, 0},
            {Integer.MAX_VALUE, 0}, {0, Integer.MIN_VALUE}, {0, Integer.MAX_VALUE},
        };
        for (int[] w : wrong) {
            CHECK.refusedAsArgument("centre(" + w[0] + ", " + w[1] + ")",
                    x -> x.centre(w[0], w[1]));
        }
    }
}
