/** Promise 3. */
public final class PowerTest {
    private static final Check CHECK = new Check("PowerTest");

    public static void main(String[] args) {
        itTellsWhatIsNew();
        onWhileOnChangesNothing();
        offWhileWaiting();
        onAgainWhileLetInIsOnItsWay();
        aLevelBeginsAnew();
        cellsUnderWayAreFresh();
        goneCellsStayGone();
        cellsWereSentNoTime();
        whatIsToldWhileOffIsLost();
        offWhileOffChangesNothing();
        offKeepsAllElse();
        aLevelIsLostByOff();
        offWithoutAnyCell();
        offWithTwentyFourCells();
        aTerminalIsNoughtToFour();
        CHECK.end();
    }

    private static void power(SharedUplink x, int t, boolean on, boolean want) {
        CHECK.equal("power(" + t + ", " + on + ")", want ? 1 : 0, x.power(t, on) ? 1 : 0);
    }

    private static void itTellsWhatIsNew() {
        SharedUplink x = new SharedUplink();
        for (int t = 0; t < 5; t++) {
            power(x, t, false, false);
            power(x, t, true, true);
            CHECK.equal("asking", 1, x.terminal(t, 0));
            CHECK.equal("level", 0, x.terminal(t, 1));
            power(x, t, true, false);
            power(x, t, false, true);
            CHECK.equal("off", 0, x.terminal(t, 0));
            CHECK.equal("no level", SharedUplink.NONE, x.terminal(t, 1));
            power(x, t, false, false);
        }
    }

    private static void onWhileOnChangesNothing() {
        SharedUplink x = new SharedUplink();
        x.power(0, true);
        x.play();
        power(x, 0, true, false);
        CHECK.equal("waiting", 2, x.terminal(0, 0));
        Scene.play(x, 2);
        x.send(0, 6);
        x.play();
        power(x, 0, true, false);
        CHECK.equal("steady", 3, x.terminal(0, 0));
        CHECK.equal("under way", 6, x.terminal(0, 4));
    }

    private static void offWhileWaiting() {
        SharedUplink x = new SharedUplink();
        x.power(0, true);
        x.play();
        power(x, 0, false, true);
        CHECK.equal("still in", 1, x.centre(0, 0));
        for (int i = 0; i < 4; i++) {
            CHECK.equal("play() without bursts", 0, x.play());
            CHECK.equal("off", 0, x.terminal(0, 0));
        }
        CHECK.equal("places of one that is off", 9, x.places(0, 0));
        CHECK.equal("missed()", 0, x.missed());
    }

    /** It asks again, waits, and is let in by what was told before it was switched off. */
    private static void onAgainWhileLetInIsOnItsWay() {
        SharedUplink x = new SharedUplink();
        x.power(0, true);
        x.play();
        x.power(0, false);
        x.power(0, true);
        CHECK.equal("asking", 1, x.terminal(0, 0));
        CHECK.equal("play() with a burst in the door", 1, x.play());
        CHECK.equal("waiting", 2, x.terminal(0, 0));
        CHECK.equal("play() with nine places", 9, x.play());
        CHECK.equal("steady", 3, x.terminal(0, 0));
    }

    private static void aLevelBeginsAnew() {
        SharedUplink x = new SharedUplink();
        x.power(0, true);
        x.power(1, true);
        x.play();
        CHECK.equal("level behind the meeting", 1, x.terminal(0, 1));
        x.power(0, false);
        x.power(0, true);
        CHECK.equal("level", 0, x.terminal(0, 1));
    }

    private static void cellsUnderWayAreFresh() {
        SharedUplink x = Scene.steady(0);
        x.send(0, 6);
        x.send(0, 6);
        x.play();
        CHECK.equal("fresh", 3, x.terminal(0, 3));
        CHECK.equal("under way", 9, x.terminal(0, 4));
        x.power(0, false);
        CHECK.equal("fresh", 12, x.terminal(0, 3));
        CHECK.equal("under way", 0, x.terminal(0, 4));
        CHECK.equal("base", 1, x.terminal(0, 5));
    }

    private static void goneCellsStayGone() {
        SharedUplink x = Scene.steady(0);
        x.send(0, 2);
        Scene.playFirstLost(x);
        x.play();
        Scene.playFirstLost(x);
        CHECK.equal("under way", 1, x.terminal(0, 4));
        x.power(0, false);
        CHECK.equal("fresh", 1, x.terminal(0, 3));
        CHECK.equal("base", 1, x.terminal(0, 5));
    }

    /** Sent three times before and four times behind the switching: only the latter fail it. */
    private static void cellsWereSentNoTime() {
        SharedUplink x = Scene.steady(0);
        x.send(0, 1);
        Scene.playFirstLost(x);
        x.play();
        Scene.playFirstLost(x);
        x.play();
        Scene.playFirstLost(x);
        x.power(0, false);
        x.power(0, true);
        Scene.play(x, 2);
        for (int i = 0; i < 4; i++) {
            Scene.playFirstLost(x);
            CHECK.equal("steady", 3, x.terminal(0, 0));
            CHECK.equal("under way", 1, x.terminal(0, 4));
            x.play();
            CHECK.equal("failed", 0, x.terminal(0, 6));
        }
        x.play();
        CHECK.equal("failed", 1, x.terminal(0, 6));
        CHECK.equal("under way", 0, x.terminal(0, 4));
    }

    private static void whatIsToldWhileOffIsLost() {
        SharedUplink x = Scene.steady(0);
        x.send(0, 2);
        x.play();
        CHECK.equal("arrived", 1, x.centre(0, 3));
        x.power(0, false);
        x.power(0, true);
        Scene.play(x, 2);
        CHECK.equal("waiting", 2, x.terminal(0, 0));
        CHECK.equal("fresh, as the telling found it waiting", 2, x.terminal(0, 3));
        x.play();
        CHECK.equal("under way", 2, x.terminal(0, 4));
        CHECK.equal("base", 1, x.terminal(0, 5));
        Scene.play(x, 2);
        CHECK.equal("under way", 0, x.terminal(0, 4));
        CHECK.equal("base", 2, x.terminal(0, 5));
        CHECK.equal("arrived once", 1, x.centre(0, 3));
    }

    /** "whether that is new": off while off answers false, at every stage of others too. */
    private static void offWhileOffChangesNothing() {
        SharedUplink x = Scene.steady(0);
        x.send(1, 6);
        String before = Snapshot.of(x);
        power(x, 1, false, false);
        CHECK.equal("all that can be asked", before, Snapshot.of(x));
    }

    /** Offset, drift, base and what failed are not named: they stay as they were. */
    private static void offKeepsAllElse() {
        SharedUplink x = Scene.steady(0);
        x.send(0, 1);
        for (int i = 0; i < 4; i++) {
            Scene.playFirstLost(x);
            x.play();
        }
        x.drift(0, 2);
        x.play();
        x.send(0, 2);
        power(x, 0, false, true);
        CHECK.equal("offset", 2, x.terminal(0, 2));
        CHECK.equal("base", 2, x.terminal(0, 5));
        CHECK.equal("failed", 1, x.terminal(0, 6));
        x.play();
        CHECK.equal("offset with the drift of before", 4, x.terminal(0, 2));
        power(x, 0, true, true);
        CHECK.equal("offset", 4, x.terminal(0, 2));
        CHECK.equal("base", 2, x.terminal(0, 5));
        CHECK.equal("failed", 1, x.terminal(0, 6));
        CHECK.equal("fresh", 2, x.terminal(0, 3));
        CHECK.equal("the next number", 3, x.send(0, 1));
    }

    /** Off with a level above 0, it takes no part in what moves the levels. */
    private static void aLevelIsLostByOff() {
        SharedUplink x = new SharedUplink();
        x.power(0, true);
        x.power(1, true);
        x.play();
        CHECK.equal("level of 0", 1, x.terminal(0, 1));
        power(x, 0, false, true);
        CHECK.equal("level of one that is off", SharedUplink.NONE, x.terminal(0, 1));
        CHECK.equal("play() with 1 alone", 1, x.play());
        CHECK.equal("off", 0, x.terminal(0, 0));
        CHECK.equal("play() without anybody in the door", 0, x.play());
        power(x, 0, true, true);
        CHECK.equal("level", 0, x.terminal(0, 1));
    }

    private static void offWithoutAnyCell() {
        SharedUplink x = Scene.steady(0);
        power(x, 0, false, true);
        CHECK.equal("fresh", 0, x.terminal(0, 3));
        CHECK.equal("under way", 0, x.terminal(0, 4));
        CHECK.equal("base", 1, x.terminal(0, 5));
    }

    private static void offWithTwentyFourCells() {
        SharedUplink x = Scene.steady(0);
        Scene.sendCells(x, 0, 24);
        Scene.playUnheard(x, 2);
        CHECK.equal("under way", 18, x.terminal(0, 4));
        power(x, 0, false, true);
        CHECK.equal("fresh", 24, x.terminal(0, 3));
        CHECK.equal("under way", 0, x.terminal(0, 4));
        CHECK.refused("send(0, 1)", IllegalStateException.class, () -> x.send(0, 1));
    }

    /** "IllegalArgumentException": there is no such terminal. */
    private static void aTerminalIsNoughtToFour() {
        for (int t : new int[] {-1, 5, Integer.MIN_VALUE, Integer.MAX_VALUE}) {
            CHECK.refusedAsArgument("power(" + t + ", true)", x -> x.power(t, true));
            CHECK.refusedAsArgument("power(" + t + ", false)", x -> x.power(t, false));
        }
    }
}
