/** Promise 3. */
public final class PowerTest {
    private static final Check CHECK = new Check("PowerTest");

    public static void main(String[] args) {
        itTellsWhatIsNew();
        onWhileOnChangesNothing();
        offWhileWaiting();
        onAgainWhileLetInIsOnItsWay();
        aLevelBeginsAnew();
        cellsUnderWayAreFresh();
        goneCellsStayGone();
        cellsWereSentNoTime();
        whatIsToldWhileOffIsLost();
        CHECK.refusedAsArgument("power(-1, true)", x -> x.power(-1, true));
        CHECK.refusedAsArgument("power(5, true)", x -> x.power(5, true));
        CHECK.refusedAsArgument("power(-1, false)", x -> x.power(-1, false));
        CHECK.refusedAsArgument("power(5, false)", x -> x.power(5, false));
        CHECK.end();
    }

    private static void power(SharedUplink x, int t, boolean on, boolean want) {
        CHECK.equal("power(" + t + ", " + on + ")", want ? 1 : 0, x.power(t, on) ? 1 : 0);
    }

    private static void itTellsWhatIsNew() {
        SharedUplink x = new SharedUplink();
        for (int t = 0; t < 5; t++) {
            power(x, t, false, false);
            power(x, t, true, true);
            CHECK.equal("asking", 1, x.terminal(t, 0));
            CHECK.equal("level", 0, x.terminal(t, 1));
            power(x, t, true, false);
            power(x, t, false, true);
            CHECK.equal("off", 0, x.terminal(t, 0));
            CHECK.equal("no level", SharedUplink.NONE, x.terminal(t, 1));
            power(x, t, false, false);
        }
    }

    private static void onWhileOnChangesNothing() {
        SharedUplink x = new SharedUplink();
        x.power(0, true);
        x.play();
        power(x, 0, true, false);
        CHECK.equal("waiting", 2, x.terminal(0, 0));
        Scene.play(x, 2);
        x.send(0, 6);
        x.play();
        power(x, 0, true, false);
        CHECK.equal("steady", 3, x.terminal(0, 0));
        CHECK.equal("under way", 6, x.terminal(0, 4));
    }

    private static void offWhileWaiting() {
        SharedUplink x = new SharedUplink();
        x.power(0, true);
        x.play();
        power(x, 0, false, true);
        CHECK.equal("still in", 1, x.centre(0, 0));
        for (int i = 0; i < 4; i++) {
            CHECK.equal("play() without bursts", 0, x.play());
            CHECK.equal("off", 0, x.terminal(0, 0));
        }
        CHECK.equal("places of one that is off", 9, x.places(0, 0));
        CHECK.equal("missed()", 0, x.missed());
    }

    /** It asks again, waits, and is let in by what was told before it was switched off. */
    private static void onAgainWhileLetInIsOnItsWay() {
        SharedUplink x = new SharedUplink();
        x.power(0, true);
        x.play();
        x.power(0, false);
        x.power(0, true);
        CHECK.equal("asking", 1, x.terminal(0, 0));
        CHECK.equal("play() with a burst in the door", 1, x.play());
        CHECK.equal("waiting", 2, x.terminal(0, 0));
        CHECK.equal("play() with nine places", 9, x.play());
        CHECK.equal("steady", 3, x.terminal(0, 0));
    }

    private static void aLevelBeginsAnew() {
        SharedUplink x = new SharedUplink();
        x.power(0, true);
        x.power(1, true);
        x.play();
        CHECK.equal("level behind the meeting", 1, x.terminal(0, 1));
        x.power(0, false);
        x.power(0, true);
        CHECK.equal("level", 0, x.terminal(0, 1));
    }

    private static void cellsUnderWayAreFresh() {
        SharedUplink x = Scene.steady(0);
        x.send(0, 6);
        x.send(0, 6);
        x.play();
        CHECK.equal("fresh", 3, x.terminal(0, 3));
        CHECK.equal("under way", 9, x.terminal(0, 4));
        x.power(0, false);
        CHECK.equal("fresh", 12, x.terminal(0, 3));
        CHECK.equal("under way", 0, x.terminal(0, 4));
        CHECK.equal("base", 1, x.terminal(0, 5));
    }

    private static void goneCellsStayGone() {
        SharedUplink x = Scene.steady(0);
        x.send(0, 2);
        Scene.playFirstLost(x);
        x.play();
        Scene.playFirstLost(x);
        CHECK.equal("under way", 1, x.terminal(0, 4));
        x.power(0, false);
        CHECK.equal("fresh", 1, x.terminal(0, 3));
        CHECK.equal("base", 1, x.terminal(0, 5));
    }

    /** Sent three times before and four times behind the switching: only the latter fail it. */
    private static void cellsWereSentNoTime() {
        SharedUplink x = Scene.steady(0);
        x.send(0, 1);
        Scene.playFirstLost(x);
        x.play();
        Scene.playFirstLost(x);
        x.play();
        Scene.playFirstLost(x);
        x.power(0, false);
        x.power(0, true);
        Scene.play(x, 2);
        for (int i = 0; i < 4; i++) {
            Scene.playFirstLost(x);
            CHECK.equal("steady", 3, x.terminal(0, 0));
            CHECK.equal("under way", 1, x.terminal(0, 4));
            x.play();
            CHECK.equal("failed", 0, x.terminal(0, 6));
        }
        x.play();
        CHECK.equal("failed", 1, x.terminal(0, 6));
        CHECK.equal("under way", 0, x.terminal(0, 4));
    }

    private static void whatIsToldWhileOffIsLost() {
        SharedUplink x = Scene.steady(0);
        x.send(0, 2);
        x.play();
        CHECK.equal("arrived", 1, x.centre(0, 3));
        x.power(0, false);
        x.power(0, true);
        Scene.play(x, 2);
        CHECK.equal("waiting", 2, x.terminal(0, 0));
        CHECK.equal("fresh, as the telling found it waiting", 2, x.terminal(0, 3));
        x.play();
        CHECK.equal("under way", 2, x.terminal(0, 4));
        CHECK.equal("base", 1, x.terminal(0, 5));
        Scene.play(x, 2);
        CHECK.equal("under way", 0, x.terminal(0, 4));
        CHECK.equal("base", 2, x.terminal(0, 5));
        CHECK.equal("arrived once", 1, x.centre(0, 3));
    }
}
