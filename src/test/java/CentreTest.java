/** Promise 10. */
public final class CentreTest {
    private static final Check CHECK = new Check("CentreTest");

    public static void main(String[] args) {
        theDoorLetsIn();
        sixSilentSuperframes();
        needsAreWhatIsLeft();
        theDoorClearsNeeds();
        needsStayWhenItIsNotIn();
        arrivalIsInOrder();
        aFailedOneIsPassed();
        aLaterOneArrivesBehindAFailedOne();
        sixSilentSuperframesBehindTheDoor();
        heardInTheSeventh();
        needsOfNoneAndOfAll();
        datagramsOfOneToSixCells();
        severalArePassedByOneBurst();
        passedOnesArriveIfAllCame();
        severalArriveByOneBurst();
        aBaseThatIsExpectedPassesNothing();
        aCellOfALesserOneIsNothingNew();
        nothingArrivedYet();
        aTerminalIsNoughtToFour();
        whatIsNoughtToFour();
        CHECK.end();
    }

    private static void centre(SharedUplink x, int expected, int arrived, int latest) {
        String when = " behind superframe " + (x.played() - 1);
        CHECK.equal("expected" + when, expected, x.centre(0, 2));
        CHECK.equal("arrived" + when, arrived, x.centre(0, 3));
        CHECK.equal("latest" + when, latest, x.centre(0, 4));
    }

    private static void theDoorLetsIn() {
        SharedUplink x = new SharedUplink();
        x.power(0, true);
        CHECK.equal("in", 0, x.centre(0, 0));
        x.play();
        CHECK.equal("in", 1, x.centre(0, 0));
        CHECK.equal("another is in", 0, x.centre(1, 0));
    }

    /** Heard in superframe 2 at last: in behind 8, not behind 9. */
    private static void sixSilentSuperframes() {
        SharedUplink x = Scene.steady(0);
        x.power(0, false);
        for (int k = 3; k <= 8; k++) {
            x.play();
            CHECK.equal("in", 1, x.centre(0, 0));
            CHECK.equal("places", 9, x.places(0, 1));
        }
        x.play();
        CHECK.equal("in", 0, x.centre(0, 0));
        CHECK.equal("places made before", 9, x.places(0, 0));
        CHECK.equal("places", 0, x.places(0, 1));
    }

    private static void needsAreWhatIsLeft() {
        SharedUplink x = Scene.steady(0);
        x.send(0, 6);
        x.send(0, 6);
        x.send(0, 6);
        CHECK.equal("needs", 0, x.centre(0, 1));
        x.play();
        CHECK.equal("needs", 9, x.centre(0, 1));
        x.lose(8, 1);
        x.play();
        CHECK.equal("needs by the last that was heard", 1, x.centre(0, 1));
        x.send(0, 3);
        Scene.playUnheard(x, 1);
        CHECK.equal("needs when nothing was heard", 1, x.centre(0, 1));
        x.play();
        CHECK.equal("needs", 0, x.centre(0, 1));
    }

    private static void theDoorClearsNeeds() {
        SharedUplink x = Scene.steady(0);
        x.send(0, 6);
        x.send(0, 6);
        x.play();
        CHECK.equal("needs", 3, x.centre(0, 1));
        x.power(0, false);
        CHECK.equal("needs", 3, x.centre(0, 1));
        x.power(0, true);
        x.play();
        CHECK.equal("needs", 0, x.centre(0, 1));
        centre(x, 2, 1, 1);
    }

    private static void needsStayWhenItIsNotIn() {
        SharedUplink x = Scene.steady(0);
        x.send(0, 6);
        x.send(0, 6);
        x.play();
        x.power(0, false);
        Scene.play(x, 7);
        CHECK.equal("in", 0, x.centre(0, 0));
        CHECK.equal("needs", 3, x.centre(0, 1));
        centre(x, 2, 1, 1);
    }

    private static void arrivalIsInOrder() {
        SharedUplink x = Scene.steady(0);
        x.send(0, 2);
        x.send(0, 3);
        x.send(0, 1);
        centre(x, 1, 0, 0);
        Scene.playFirstLost(x);
        centre(x, 1, 0, 0);
        x.play();
        centre(x, 1, 0, 0);
        x.play();
        centre(x, 4, 3, 3);
    }

    private static void aFailedOneIsPassed() {
        SharedUplink x = Scene.steady(0);
        x.send(0, 3);
        for (int i = 0; i < 4; i++) {
            Scene.playFirstLost(x);
            x.play();
            centre(x, 1, 0, 0);
        }
        x.play();
        centre(x, 2, 0, 0);
        CHECK.equal("number", 2, x.send(0, 3));
        x.play();
        centre(x, 3, 1, 2);
    }

    /** The second one's cells all came while the first was tried; it counts when that failed. */
    private static void aLaterOneArrivesBehindAFailedOne() {
        SharedUplink x = Scene.steady(0);
        x.send(0, 2);
        x.send(0, 2);
        for (int i = 0; i < 4; i++) {
            Scene.playFirstLost(x);
            x.play();
            centre(x, 1, 0, 0);
        }
        x.play();
        CHECK.equal("base", 3, x.terminal(0, 5));
        centre(x, 3, 1, 2);
    }

    /** Heard in the door in superframe 0, and never again: in behind 6, not behind 7. */
    private static void sixSilentSuperframesBehindTheDoor() {
        SharedUplink x = new SharedUplink();
        x.power(3, true);
        x.play();
        x.power(3, false);
        for (int k = 1; k <= 6; k++) {
            x.play();
            CHECK.equal("in behind " + k, 1, x.centre(3, 0));
        }
        x.play();
        CHECK.equal("in behind 7", 0, x.centre(3, 0));
        x.play();
        CHECK.equal("in behind 8", 0, x.centre(3, 0));
    }

    /** "in this superframe and the six before": heard in 2 and in the door in 9, it stays in. */
    private static void heardInTheSeventh() {
        SharedUplink x = Scene.steady(0);
        x.power(0, false);
        Scene.play(x, 6);
        x.power(0, true);
        x.play();
        CHECK.equal("in behind 9", 1, x.centre(0, 0));
        CHECK.equal("places in 11", 9, x.places(0, 1));
        x.power(0, false);
        Scene.play(x, 6);
        CHECK.equal("in behind 15", 1, x.centre(0, 0));
        x.play();
        CHECK.equal("in behind 16", 0, x.centre(0, 0));
    }

    /** "as many cells as were told to be left": 23 by the first of 24, 0 by the last one. */
    private static void needsOfNoneAndOfAll() {
        SharedUplink x = Scene.steady(0);
        Scene.sendCells(x, 0, 24);
        Scene.loseSlots(x, 1, 8);
        CHECK.equal("play() with the first place alone", 1, x.play());
        CHECK.equal("needs", 23, x.centre(0, 1));
        x = Scene.steady(0);
        Scene.sendCells(x, 0, 9);
        x.play();
        CHECK.equal("needs when all were sent", 0, x.centre(0, 1));
        x = Scene.steady(0);
        Scene.sendCells(x, 0, 10);
        x.play();
        CHECK.equal("needs when one is left", 1, x.centre(0, 1));
    }

    /** "that has ARRIVED, if all its cells came": each of 1 to 6 cells is missed once. */
    private static void datagramsOfOneToSixCells() {
        for (int cells = 1; cells <= 6; cells++) {
            SharedUplink y = Scene.steady(0);
            y.send(0, cells);
            y.play();
            centre(y, 2, 1, 1);
            for (int missed = 0; missed < cells; missed++) {
                SharedUplink x = Scene.steady(0);
                x.send(0, cells);
                x.lose(missed, 1);
                Scene.play(x, 2);
                centre(x, 1, 0, 0);
                x.play();
                centre(x, 2, 1, 1);
            }
        }
    }

    /** Plays superframes 3 to 10 so that the cells in these slots fail in 11. */
    private static SharedUplink failing(int datagrams, int... slots) {
        SharedUplink x = Scene.steady(0);
        for (int i = 0; i < datagrams; i++) {
            x.send(0, 1);
        }
        for (int i = 0; i < 4; i++) {
            for (int j = 0; j < slots.length; j++) {
                x.lose(i == 0 ? slots[j] : j, 1);
            }
            Scene.play(x, 2);
        }
        return x;
    }

    /** "while the base is greater than the number expected": from 1 to 4 by the one burst heard. */
    private static void severalArePassedByOneBurst() {
        SharedUplink x = failing(3, 0, 1, 2);
        centre(x, 1, 0, 0);
        Scene.loseSlots(x, 0, 7);
        CHECK.equal("play()", 1, x.play());
        CHECK.equal("failed", 3, x.terminal(0, 6));
        centre(x, 4, 0, 0);
    }

    /** The second of three came while the first and the third were tried. */
    private static void passedOnesArriveIfAllCame() {
        SharedUplink x = failing(3, 0, 2);
        centre(x, 1, 0, 0);
        Scene.loseSlots(x, 0, 7);
        CHECK.equal("play()", 1, x.play());
        CHECK.equal("failed", 2, x.terminal(0, 6));
        centre(x, 4, 1, 2);
    }

    /** "while all cells of the datagram expected came": three by the one burst heard. */
    private static void severalArriveByOneBurst() {
        SharedUplink x = Scene.steady(0);
        x.send(0, 1);
        x.send(0, 1);
        x.send(0, 1);
        x.send(0, 1);
        x.lose(3, 1);
        Scene.playFirstLost(x);
        Scene.playUnheard(x, 1);
        centre(x, 1, 0, 0);
        Scene.loseSlots(x, 1, 8);
        CHECK.equal("play()", 1, x.play());
        centre(x, 4, 3, 3);
    }

    /** "greater": bursts that tell the base 1 leave 1 expected. */
    private static void aBaseThatIsExpectedPassesNothing() {
        SharedUplink x = Scene.steady(0);
        x.play();
        centre(x, 1, 0, 0);
        x.send(0, 1);
        Scene.playFirstLost(x);
        centre(x, 1, 0, 0);
        x.play();
        centre(x, 1, 0, 0);
    }

    /** "if it is of no lesser datagram": all of it came before, and is sent and heard again. */
    private static void aCellOfALesserOneIsNothingNew() {
        SharedUplink x = Scene.steady(0);
        x.send(0, 1);
        x.play();
        centre(x, 2, 1, 1);
        x.power(0, false);
        x.power(0, true);
        Scene.play(x, 3);
        CHECK.equal("under way again", 1, x.terminal(0, 4));
        CHECK.equal("base", 1, x.terminal(0, 5));
        centre(x, 2, 1, 1);
    }

    /** "(0: none)", "(1 at first)". */
    private static void nothingArrivedYet() {
        SharedUplink x = Scene.steady(0);
        centre(x, 1, 0, 0);
        x.send(0, 2);
        x.lose(1, 1);
        x.play();
        centre(x, 1, 0, 0);
    }

    private static void refused(int t, int what) {
        CHECK.refusedAsArgument("centre(" + t + ", " + what + ")", x -> x.centre(t, what));
    }

    /** "IllegalArgumentException": there is no such terminal. */
    private static void aTerminalIsNoughtToFour() {
        for (int t : new int[] {-1, 5, Integer.MIN_VALUE, Integer.MAX_VALUE}) {
            for (int what = 0; what <= 4; what++) {
                refused(t, what);
            }
        }
        refused(-1, 5);
    }

    /** "also for another what". */
    private static void whatIsNoughtToFour() {
        int[] due = {0, 0, 1, 0, 0};
        for (int what = 0; what <= 4; what++) {
            CHECK.equal("centre(4, " + what + ")", due[what], new SharedUplink().centre(4, what));
        }
        for (int what : new int[] {-1, 5, 6, Integer.MIN_VALUE, Integer.MAX_VALUE}) {
            refused(0, what);
            refused(4, what);
        }
    }
}
