/** Promise 9: how a terminal goes on, and its cells. */
public final class TerminalTest {
    private static final Check CHECK = new Check("TerminalTest");

    public static void main(String[] args) {
        askingWaitingSteady();
        fiveSuperframesWithoutOffset();
        fourSuperframesWithoutOffset();
        cellsGoTheirWay();
        anUnheardCellIsSentAgain();
        fourTimesUnheardFails();
        aDatagramFailsOnce();
        aFailureTakesAllCells();
        lateCellsOfOneThatAsksAreFresh();
        letInComesInTheSecondSuperframe();
        oneThatAsksIsNotLetIn();
        justSteadyCountsAsTold();
        anOffsetOfNoughtIsTold();
        oneThatWaitsIsNotTimed();
        lateInTheSecondSuperframe();
        heardTheFourthTime();
        aFailureTakesCellsOfEveryKind();
        aFailureTakesFreshCells();
        aFailureLeavesOthers();
        itFailsWhileItAsks();
        itFailsWhileItWaits();
        theFirstFreshCellIsSent();
        aBurstWithoutCell();
        aBaseWithoutDatagrams();
        aBaseIsTheLeast();
        noLevelUnlessAsking();
        aTerminalIsNoughtToFour();
        whatIsNoughtToSix();
        CHECK.end();
    }

    private static void state(SharedUplink x, int t, int state, int level) {
        CHECK.equal("state of " + t, state, x.terminal(t, 0));
        CHECK.equal("level of " + t, level, x.terminal(t, 1));
    }

    private static void cells(SharedUplink x, int fresh, int underWay, int base, int failed) {
        String when = " behind superframe " + (x.played() - 1);
        CHECK.equal("fresh" + when, fresh, x.terminal(0, 3));
        CHECK.equal("under way" + when, underWay, x.terminal(0, 4));
        CHECK.equal("base" + when, base, x.terminal(0, 5));
        CHECK.equal("failed" + when, failed, x.terminal(0, 6));
    }

    private static void askingWaitingSteady() {
        SharedUplink x = new SharedUplink();
        state(x, 4, 0, -1);
        x.power(4, true);
        state(x, 4, 1, 0);
        x.play();
        state(x, 4, 2, -1);
        x.play();
        state(x, 4, 2, -1);
        x.play();
        state(x, 4, 3, -1);
    }

    /** Heard in superframe 2 at last, and told so in 4: it asks in 9, in a door that is lost. */
    private static void fiveSuperframesWithoutOffset() {
        SharedUplink x = Scene.steady(0);
        Scene.playUnheard(x, 6);
        state(x, 0, 3, -1);
        x.lose(0, 0);
        CHECK.equal("play() with the door lost", 0, x.play());
        state(x, 0, 1, 0);
        CHECK.equal("play() with the door", 1, x.play());
        state(x, 0, 2, -1);
        Scene.play(x, 2);
        state(x, 0, 3, -1);
        Scene.playUnheard(x, 4);
        state(x, 0, 3, -1);
    }

    /** Heard in superframe 7 again, and told so in 9. */
    private static void fourSuperframesWithoutOffset() {
        SharedUplink x = Scene.steady(0);
        Scene.playUnheard(x, 4);
        x.play();
        Scene.playUnheard(x, 5);
        state(x, 0, 3, -1);
        x.play();
        state(x, 0, 3, -1);
        x.play();
        state(x, 0, 2, -1);
    }

    private static void cellsGoTheirWay() {
        SharedUplink x = Scene.steady(0);
        x.send(0, 6);
        x.send(0, 6);
        cells(x, 12, 0, 1, 0);
        x.play();
        cells(x, 3, 9, 1, 0);
        x.play();
        cells(x, 0, 12, 1, 0);
        x.play();
        cells(x, 0, 3, 2, 0);
        x.play();
        cells(x, 0, 0, 3, 0);
    }

    private static void anUnheardCellIsSentAgain() {
        SharedUplink x = Scene.steady(0);
        x.send(0, 2);
        x.send(0, 1);
        Scene.playFirstLost(x);
        cells(x, 0, 3, 1, 0);
        x.play();
        cells(x, 0, 3, 1, 0);
        x.play();
        cells(x, 0, 1, 1, 0);
        CHECK.equal("arrived", 2, x.centre(0, 3));
        x.play();
        cells(x, 0, 1, 1, 0);
        x.play();
        cells(x, 0, 0, 3, 0);
    }

    private static void fourTimesUnheardFails() {
        SharedUplink x = Scene.steady(0);
        x.send(0, 1);
        for (int i = 0; i < 4; i++) {
            Scene.playFirstLost(x);
            cells(x, 0, 1, 1, 0);
            x.play();
            cells(x, 0, 1, 1, 0);
        }
        x.play();
        cells(x, 0, 0, 2, 1);
        x.play();
        cells(x, 0, 0, 2, 1);
    }

    /** Two cells of the first one fail it once; the second one fails a superframe later. */
    private static void aDatagramFailsOnce() {
        SharedUplink x = Scene.steady(0);
        x.send(0, 6);
        x.send(0, 5);
        for (int i = 0; i < 4; i++) {
            x.lose(1, 1);
            Scene.playFirstLost(x);
            Scene.playFirstLost(x);
        }
        cells(x, 0, 3, 1, 0);
        x.play();
        cells(x, 0, 1, 2, 1);
        x.play();
        cells(x, 0, 0, 3, 2);
    }

    /** The second one's cell 3 is sent a superframe later than its cell 0, and goes with it. */
    private static void aFailureTakesAllCells() {
        SharedUplink x = Scene.steady(0);
        x.send(0, 6);
        x.send(0, 6);
        x.lose(6, 1);
        x.play();
        for (int k = 4; k <= 10; k++) {
            Scene.playFirstLost(x);
        }
        cells(x, 0, 2, 2, 0);
        x.play();
        cells(x, 0, 0, 3, 1);
    }

    /** Sent in superframe 8, it is fresh in 10, when the terminal waits. */
    private static void lateCellsOfOneThatAsksAreFresh() {
        SharedUplink x = Scene.steady(0);
        Scene.playUnheard(x, 5);
        x.send(0, 4);
        Scene.playUnheard(x, 1);
        cells(x, 0, 4, 1, 0);
        x.play();
        state(x, 0, 2, -1);
        cells(x, 0, 4, 1, 0);
        x.play();
        state(x, 0, 2, -1);
        cells(x, 4, 0, 1, 0);
    }

    /** "What the centre told at the end of superframe k - 2 comes": 0 in 2, not in 1. */
    private static void letInComesInTheSecondSuperframe() {
        SharedUplink x = new SharedUplink();
        x.power(2, true);
        x.play();
        CHECK.equal("play() one behind", 0, x.play());
        state(x, 2, 2, -1);
        CHECK.equal("play() two behind", 9, x.play());
        state(x, 2, 3, -1);
    }

    /** "A terminal that is WAITING and let in there": this one asks when the telling comes. */
    private static void oneThatAsksIsNotLetIn() {
        SharedUplink x = new SharedUplink();
        x.power(0, true);
        x.play();
        x.power(0, false);
        x.power(0, true);
        x.lose(0, 0);
        x.play();
        state(x, 0, 1, 0);
        CHECK.equal("play() with a burst in the door alone", 1, x.play());
        CHECK.equal("heard in the door", 0, x.heard(0, 0));
        state(x, 0, 2, -1);
        Scene.play(x, 2);
        state(x, 0, 3, -1);
    }

    /** "one that just became steady counts as told": steady in 2, it asks in 7, not in 6. */
    private static void justSteadyCountsAsTold() {
        SharedUplink x = new SharedUplink();
        x.power(0, true);
        Scene.play(x, 2);
        for (int k = 2; k <= 6; k++) {
            Scene.playUnheard(x, 1);
            state(x, 0, 3, -1);
        }
        x.lose(0, 0);
        CHECK.equal("play() in 7", 0, x.play());
        state(x, 0, 1, 0);
        CHECK.equal("missed()", 5 * 9 + 1, x.missed());
    }

    /** "no offset was told": one of 0 parts was told, too. */
    private static void anOffsetOfNoughtIsTold() {
        SharedUplink x = Scene.steady(0);
        Scene.play(x, 12);
        state(x, 0, 3, -1);
        CHECK.equal("offset", 0, x.terminal(0, 2));
    }

    /** "A STEADY terminal": one that waited is not asked for offsets before it is steady. */
    private static void oneThatWaitsIsNotTimed() {
        SharedUplink x = new SharedUplink();
        Scene.play(x, 20);
        x.power(0, true);
        x.play();
        state(x, 0, 2, -1);
        x.play();
        state(x, 0, 2, -1);
        x.play();
        state(x, 0, 3, -1);
    }

    /** "sent in superframe k - 2 or before": a cell of 3 is under way in 4, and sent anew in 5. */
    private static void lateInTheSecondSuperframe() {
        SharedUplink x = Scene.steady(0);
        x.send(0, 1);
        Scene.playFirstLost(x);
        cells(x, 0, 1, 1, 0);
        x.play();
        cells(x, 0, 1, 1, 0);
        CHECK.equal("arrived behind 4", 0, x.centre(0, 3));
        x.play();
        cells(x, 0, 1, 1, 0);
        CHECK.equal("arrived behind 5", 1, x.centre(0, 3));
    }

    /** "sent four times": unheard three times, the fourth sending is in time. */
    private static void heardTheFourthTime() {
        SharedUplink x = Scene.steady(0);
        x.send(0, 1);
        for (int i = 0; i < 3; i++) {
            Scene.playFirstLost(x);
            x.play();
        }
        cells(x, 0, 1, 1, 0);
        CHECK.equal("arrived behind 8", 0, x.centre(0, 3));
        x.play();
        CHECK.equal("arrived behind 9", 1, x.centre(0, 3));
        x.play();
        cells(x, 0, 1, 1, 0);
        x.play();
        cells(x, 0, 0, 2, 0);
    }

    /**
     * Datagram 4 fails in superframe 12 by its cells 0 and 1 of 4, 6, 8 and 10; its cell 3 (of 5,
     * 7, 9, 11) and 5 (of 9, 11) are under way still, its cell 4 (of 6, 8, 10) is late.
     */
    private static void aFailureTakesCellsOfEveryKind() {
        SharedUplink x = Scene.steady(0);
        x.send(0, 6);
        x.send(0, 3);
        Scene.loseSlots(x, 0, 7);
        x.play();
        x.send(0, 6);
        x.send(0, 6);
        Scene.loseSlots(x, 0, 7);
        x.play();
        Scene.playUnheard(x, 2);
        Scene.loseSlots(x, 1, 8);
        x.play();
        Scene.playUnheard(x, 3);
        cells(x, 0, 18, 1, 0);
        Scene.playUnheard(x, 1);
        cells(x, 0, 11, 3, 2);
        Scene.playUnheard(x, 1);
        state(x, 0, 3, -1);
        cells(x, 0, 0, 5, 4);
    }

    /**
     * Terminal 4 has one place in each of superframes 9 to 16, as the others need much and are
     * off: its cell 0 is sent in 9, 11, 13 and 15; its cells 1 and 2 come, 3 is sent in 16.
     */
    private static void aFailureTakesFreshCells() {
        SharedUplink x = Scene.five();
        for (int t = 0; t < 4; t++) {
            x.rates(t, 5, 4);
            Scene.sendCells(x, t, 24);
        }
        Scene.play(x, 2);
        for (int t = 0; t < 4; t++) {
            x.power(t, false);
        }
        x.send(4, 6);
        for (int k = 9; k <= 16; k++) {
            CHECK.equal("places of 4 in " + k, 1, x.places(4, 0));
            if (k % 2 == 1 || k == 12) {
                loseThePlaceOfFour(x);
            }
            x.play();
            CHECK.equal("failed behind " + k, 0, x.terminal(4, 6));
        }
        CHECK.equal("fresh behind 16", 2, x.terminal(4, 3));
        CHECK.equal("under way behind 16", 2, x.terminal(4, 4));
        x.play();
        CHECK.equal("failed behind 17", 1, x.terminal(4, 6));
        CHECK.equal("fresh behind 17", 0, x.terminal(4, 3));
        CHECK.equal("under way behind 17", 0, x.terminal(4, 4));
        CHECK.equal("base behind 17", 2, x.terminal(4, 5));
    }

    private static void loseThePlaceOfFour(SharedUplink x) {
        for (int slot = 0; slot < 10; slot++) {
            for (int carrier = 0; carrier < 3; carrier++) {
                if (x.plan(slot, carrier, 0) == 4) {
                    x.lose(slot, carrier);
                    return;
                }
            }
        }
    }

    /** "all cells of its datagram": not those of the ones before and behind it. */
    private static void aFailureLeavesOthers() {
        SharedUplink x = Scene.steady(0);
        x.send(0, 1);
        for (int i = 0; i < 3; i++) {
            Scene.playFirstLost(x);
            x.play();
        }
        x.send(0, 2);
        x.send(0, 1);
        Scene.loseSlots(x, 0, 8);
        x.play();
        x.play();
        cells(x, 0, 4, 1, 0);
        Scene.loseSlots(x, 0, 8);
        x.play();
        cells(x, 0, 3, 2, 1);
    }

    /** "Of every terminal": sent in 3, 5, 7 and 9, heard last in 4, so that it asks in 11. */
    private static void itFailsWhileItAsks() {
        SharedUplink x = Scene.steady(0);
        x.send(0, 1);
        Scene.playFirstLost(x);
        x.play();
        Scene.playUnheard(x, 6);
        state(x, 0, 3, -1);
        cells(x, 0, 1, 1, 0);
        x.lose(0, 0);
        x.play();
        state(x, 0, 1, 0);
        cells(x, 0, 0, 2, 1);
    }

    /** Sent in 3, 5, 7 and 9, heard last in 3: it asks in 10, and waits in 11. */
    private static void itFailsWhileItWaits() {
        SharedUplink x = Scene.steady(0);
        x.send(0, 1);
        Scene.playFirstLost(x);
        Scene.playUnheard(x, 6);
        state(x, 0, 3, -1);
        x.play();
        state(x, 0, 2, -1);
        cells(x, 0, 1, 1, 0);
        x.play();
        state(x, 0, 2, -1);
        cells(x, 0, 0, 2, 1);
    }

    /** "its first fresh cell (by datagrams, then cells)": a late one goes before newer ones. */
    private static void theFirstFreshCellIsSent() {
        SharedUplink x = Scene.steady(0);
        x.send(0, 2);
        x.lose(1, 1);
        x.play();
        x.play();
        x.send(0, 2);
        // the places carry cell 1 of the first, then cells 0 and 1 of the second
        x.lose(1, 1);
        x.play();
        CHECK.equal("expected", 2, x.centre(0, 2));
        x.play();
        x.play();
        CHECK.equal("expected", 3, x.centre(0, 2));
    }

    /** "or without one": a steady terminal is heard in all its places with nothing to send. */
    private static void aBurstWithoutCell() {
        SharedUplink x = Scene.steady(0);
        CHECK.equal("play() without a cell", 9, x.play());
        x.send(0, 1);
        CHECK.equal("play() with one cell", 9, x.play());
        CHECK.equal("arrived", 1, x.centre(0, 3));
        CHECK.equal("needs", 0, x.centre(0, 1));
    }

    /** "or its next one's": 1 before the first, and one more than the latest when all are gone. */
    private static void aBaseWithoutDatagrams() {
        SharedUplink x = Scene.steady(0);
        cells(x, 0, 0, 1, 0);
        x.send(0, 1);
        cells(x, 1, 0, 1, 0);
        Scene.play(x, 3);
        cells(x, 0, 0, 2, 0);
        x.send(0, 1);
        x.send(0, 1);
        cells(x, 2, 0, 2, 0);
        Scene.play(x, 3);
        cells(x, 0, 0, 4, 0);
    }

    /** "the least number of a datagram of which not all cells are gone": some, or later ones. */
    private static void aBaseIsTheLeast() {
        SharedUplink x = Scene.steady(0);
        x.send(0, 2);
        x.send(0, 2);
        x.send(0, 2);
        x.lose(1, 1);
        x.lose(5, 1);
        Scene.play(x, 3);
        cells(x, 0, 2, 1, 0);
        Scene.play(x, 2);
        cells(x, 0, 0, 4, 0);
    }

    /** "1 its level (NONE when it is not asking)". */
    private static void noLevelUnlessAsking() {
        SharedUplink x = new SharedUplink();
        x.power(0, true);
        x.power(1, true);
        x.play();
        state(x, 0, 1, 1);
        x.power(0, false);
        state(x, 0, 0, -1);
        x.play();
        state(x, 1, 2, -1);
        Scene.play(x, 2);
        state(x, 1, 3, -1);
    }

    private static void refused(int t, int what) {
        CHECK.refusedAsArgument("terminal(" + t + ", " + what + ")", x -> x.terminal(t, what));
    }

    /** "IllegalArgumentException": there is no such terminal. */
    private static void aTerminalIsNoughtToFour() {
        for (int t : new int[] {-1, 5, Integer.MIN_VALUE, Integer.MAX_VALUE}) {
            for (int what = 0; what <= 6; what++) {
                refused(t, what);
            }
        }
        refused(-1, 7);
    }

    /** "also for another what". */
    private static void whatIsNoughtToSix() {
        int[] due = {0, -1, 0, 0, 0, 1, 0};
        for (int what = 0; what <= 6; what++) {
            CHECK.equal("terminal(4, " + what + ")", due[what],
                    new SharedUplink().terminal(4, what));
        }
        for (int what : new int[] {-1, 7, Integer.MIN_VALUE, Integer.MAX_VALUE}) {
            refused(0, what);
            refused(4, what);
        }
    }
}
