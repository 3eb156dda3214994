/** Promise 4, and how offsets are measured, told and taken back. */
public final class DriftTest {
    private static final Check CHECK = new Check("DriftTest");

    public static void main(String[] args) {
        everyOffsetDrifts();
        aDriftOfOneIsFollowed();
        theDoorMeasuresToo();
        atFirstNought();
        aTellingIsTakenOnce();
        onlyTheSuperframeBeforeIsTakenOff();
        oneThatWaitsTakesNothing();
        oneThatAsksTakesNothing();
        aTerminalIsNoughtToFour();
        aDriftIsFourAtMostEachWay();
        CHECK.end();
    }

    private static void everyOffsetDrifts() {
        SharedUplink x = new SharedUplink();
        x.drift(0, 4);
        x.drift(1, -4);
        x.drift(2, 1);
        CHECK.equal("offset before a superframe", 0, x.terminal(0, 2));
        Scene.play(x, 3);
        int[] due = {12, -12, 3, 0, 0};
        for (int t = 0; t < 5; t++) {
            CHECK.equal("offset of " + t, due[t], x.terminal(t, 2));
        }
        x.drift(0, -3);
        x.drift(1, 0);
        x.play();
        CHECK.equal("offset with another drift", 9, x.terminal(0, 2));
        CHECK.equal("offset without drift", -12, x.terminal(1, 2));
    }

    /** Told are 1 (door), nothing, 2, 3 - 2, 2 - 1, 2 - 1, ..: each comes two superframes later. */
    private static void aDriftOfOneIsFollowed() {
        for (int sign = -1; sign <= 1; sign += 2) {
            SharedUplink x = new SharedUplink();
            x.drift(0, sign);
            x.power(0, true);
            int[] due = {1, 2, 2, 3, 2, 2, 2, 2};
            for (int k = 0; k < due.length; k++) {
                x.play();
                CHECK.equal("offset in " + k, sign * due[k], x.terminal(0, 2));
            }
        }
    }

    private static void theDoorMeasuresToo() {
        SharedUplink x = new SharedUplink();
        x.drift(3, 4);
        Scene.play(x, 5);
        x.drift(3, 0);
        x.power(3, true);
        CHECK.equal("play() with an offset of 20 in the door", 1, x.play());
        x.play();
        CHECK.equal("offset while waiting", 20, x.terminal(3, 2));
        CHECK.equal("play() when it is steady", 9, x.play());
        CHECK.equal("offset when it is steady", 0, x.terminal(3, 2));
    }

    /** "an OFFSET and a DRIFT (0 each, in parts of a slot)". */
    private static void atFirstNought() {
        SharedUplink x = Scene.five();
        for (int t = 0; t < 5; t++) {
            CHECK.equal("offset without drift", 0, x.terminal(t, 2));
        }
    }

    /** Heard in superframe 3 alone with an offset of 2: that comes in 5, and never again. */
    private static void aTellingIsTakenOnce() {
        SharedUplink x = Scene.steady(0);
        x.drift(0, 2);
        x.play();
        x.drift(0, 0);
        int[] due = {2, 0, 0, 0, 0, 0};
        for (int offset : due) {
            Scene.playUnheard(x, 1);
            CHECK.equal("offset behind " + (x.played() - 1), offset, x.terminal(0, 2));
        }
    }

    /** Told are 2 in superframe 3, nothing in 4 and 5, and 3 in 6, less nothing. */
    private static void onlyTheSuperframeBeforeIsTakenOff() {
        SharedUplink x = Scene.steady(0);
        x.drift(0, 2);
        x.play();
        x.drift(0, 0);
        Scene.playUnheard(x, 2);
        CHECK.equal("offset behind 5", 0, x.terminal(0, 2));
        x.drift(0, 3);
        x.play();
        x.drift(0, 0);
        Scene.playUnheard(x, 1);
        CHECK.equal("offset behind 7", 3, x.terminal(0, 2));
        Scene.playUnheard(x, 1);
        CHECK.equal("offset behind 8", 0, x.terminal(0, 2));
    }

    /** Told are 3 in superframe 3, which comes in vain, and 3 less 3 in the door in 4. */
    private static void oneThatWaitsTakesNothing() {
        SharedUplink x = Scene.steady(0);
        x.drift(0, 3);
        x.play();
        x.drift(0, 0);
        x.power(0, false);
        x.power(0, true);
        int[] states = {2, 2, 3, 3, 3};
        int[] due = {3, 3, 3, 3, 0};
        for (int i = 0; i < due.length; i++) {
            x.play();
            CHECK.equal("state behind " + (4 + i), states[i], x.terminal(0, 0));
            CHECK.equal("offset behind " + (4 + i), due[i], x.terminal(0, 2));
        }
    }

    /** As before, but in superframe 5 the terminal asks: the door was lost in 4. */
    private static void oneThatAsksTakesNothing() {
        SharedUplink x = Scene.steady(0);
        x.drift(0, 3);
        x.play();
        x.drift(0, 0);
        x.power(0, false);
        x.power(0, true);
        x.lose(0, 0);
        x.play();
        x.lose(0, 0);
        x.play();
        CHECK.equal("asking behind 5", 1, x.terminal(0, 0));
        CHECK.equal("offset behind 5", 3, x.terminal(0, 2));
    }

    private static void refused(int t, int parts) {
        CHECK.refusedAsArgument("drift(" + t + ", " + parts + ")", x -> x.drift(t, parts));
    }

    /** "IllegalArgumentException": there is no such terminal. */
    private static void aTerminalIsNoughtToFour() {
        for (int t : new int[] {-1, 5, Integer.MIN_VALUE, Integer.MAX_VALUE}) {
            refused(t, 0);
            refused(t, 4);
        }
        refused(-1, 5);
    }

    /** "also when it is not -4 .. 4". */
    private static void aDriftIsFourAtMostEachWay() {
        for (int parts = -4; parts <= 4; parts++) {
            for (int t = 0; t < 5; t++) {
                SharedUplink x = new SharedUplink();
                x.drift(t, parts);
                Scene.play(x, 2);
                CHECK.equal("offset by " + parts, 2 * parts, x.terminal(t, 2));
            }
        }
        for (int t = 0; t < 5; t++) {
            refused(t, -5);
            refused(t, 5);
        }
        refused(4, Integer.MIN_VALUE);
        refused(4, Integer.MAX_VALUE);
    }
}
