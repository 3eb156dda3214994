/** Promise 9: how a terminal goes on, and its cells. */
public final class TerminalTest {
    private static final Check CHECK = new Check("TerminalTest");

    public static void main(String[] args) {
        askingWaitingSteady();
        levelsGoUpAndDown();
        fiveSuperframesWithoutOffset();
        fourSuperframesWithoutOffset();
        cellsGoTheirWay();
        anUnheardCellIsSentAgain();
        fourTimesUnheardFails();
        aDatagramFailsOnce();
        aFailureTakesAllCells();
        lateCellsOfOneThatAsksAreFresh();
        wrongArgumentsAreRefused();
        CHECK.end();
    }

    private static void state(SharedUplink x, int t, int state, int level) {
        CHECK.equal("state of " + t, state, x.terminal(t, 0));
        CHECK.equal("level of " + t, level, x.terminal(t, 1));
    }

    private static void cells(SharedUplink x, int fresh, int underWay, int base, int failed) {
        String when = " behind superframe " + (x.played() - 1);
        CHECK.equal("fresh" + when, fresh, x.terminal(0, 3));
        CHECK.equal("under way" + when, underWay, x.terminal(0, 4));
        CHECK.equal("base" + when, base, x.terminal(0, 5));
        CHECK.equal("failed" + when, failed, x.terminal(0, 6));
    }

    private static void askingWaitingSteady() {
        SharedUplink x = new SharedUplink();
        state(x, 4, 0, -1);
        x.power(4, true);
        state(x, 4, 1, 0);
        x.play();
        state(x, 4, 2, -1);
        x.play();
        state(x, 4, 2, -1);
        x.play();
        state(x, 4, 3, -1);
    }

    /** The coins: 1, 0, 0 in superframe 0 and, of terminals 1 and 2, 0 and 1 in superframe 1. */
    private static void levelsGoUpAndDown() {
        SharedUplink x = new SharedUplink();
        x.power(0, true);
        x.power(1, true);
        x.power(2, true);
        int[][] levels = {{1, 0, 0}, {2, 0, 1}, {1, -1, 0}, {0, -1, -1}, {-1, -1, -1}};
        int[][] states = {{1, 1, 1}, {1, 1, 1}, {1, 2, 1}, {1, 2, 2}, {2, 3, 2}};
        for (int k = 0; k < levels.length; k++) {
            x.play();
            for (int t = 0; t < 3; t++) {
                state(x, t, states[k][t], levels[k][t]);
            }
        }
        x = new SharedUplink();
        x.power(0, true);
        x.power(1, true);
        x.play();
        x.power(1, false);
        x.play();
        state(x, 0, 1, 0);
    }

    /** Heard in superframe 2 at last, and told so in 4: it asks in 9, in a door that is lost. */
    private static void fiveSuperframesWithoutOffset() {
        SharedUplink x = Scene.steady(0);
        Scene.playUnheard(x, 6);
        state(x, 0, 3, -1);
        x.lose(0, 0);
        CHECK.equal("play() with the door lost", 0, x.play());
        state(x, 0, 1, 0);
        CHECK.equal("play() with the door", 1, x.play());
        state(x, 0, 2, -1);
        Scene.play(x, 2);
        state(x, 0, 3, -1);
        Scene.playUnheard(x, 4);
        state(x, 0, 3, -1);
    }

    /** Heard in superframe 7 again, and told so in 9. */
    private static void fourSuperframesWithoutOffset() {
        SharedUplink x = Scene.steady(0);
        Scene.playUnheard(x, 4);
        x.play();
        Scene.playUnheard(x, 5);
        state(x, 0, 3, -1);
        x.play();
        state(x, 0, 3, -1);
        x.play();
        state(x, 0, 2, -1);
    }

    private static void cellsGoTheirWay() {
        SharedUplink x = Scene.steady(0);
        x.send(0, 6);
        x.send(0, 6);
        cells(x, 12, 0, 1, 0);
        x.play();
        cells(x, 3, 9, 1, 0);
        x.play();
        cells(x, 0, 12, 1, 0);
        x.play();
        cells(x, 0, 3, 2, 0);
        x.play();
        cells(x, 0, 0, 3, 0);
    }

    private static void anUnheardCellIsSentAgain() {
        SharedUplink x = Scene.steady(0);
        x.send(0, 2);
        x.send(0, 1);
        Scene.playFirstLost(x);
        cells(x, 0, 3, 1, 0);
        x.play();
        cells(x, 0, 3, 1, 0);
        x.play();
        cells(x, 0, 1, 1, 0);
        CHECK.equal("arrived", 2, x.centre(0, 3));
        x.play();
        cells(x, 0, 1, 1, 0);
        x.play();
        cells(x, 0, 0, 3, 0);
    }

    private static void fourTimesUnheardFails() {
        SharedUplink x = Scene.steady(0);
        x.send(0, 1);
        for (int i = 0; i < 4; i++) {
            Scene.playFirstLost(x);
            cells(x, 0, 1, 1, 0);
            x.play();
            cells(x, 0, 1, 1, 0);
        }
        x.play();
        cells(x, 0, 0, 2, 1);
        x.play();
        cells(x, 0, 0, 2, 1);
    }

    /** Two cells of the first one fail it once; the second one fails a superframe later. */
    private static void aDatagramFailsOnce() {
        SharedUplink x = Scene.steady(0);
        x.send(0, 6);
        x.send(0, 5);
        for (int i = 0; i < 4; i++) {
            x.lose(1, 1);
            Scene.playFirstLost(x);
            Scene.playFirstLost(x);
        }
        cells(x, 0, 3, 1, 0);
        x.play();
        cells(x, 0, 1, 2, 1);
        x.play();
        cells(x, 0, 0, 3, 2);
    }

    /** The second one's cell 3 is sent a superframe later than its cell 0, and goes with it. */
    private static void aFailureTakesAllCells() {
        SharedUplink x = Scene.steady(0);
        x.send(0, 6);
        x.send(0, 6);
        x.lose(6, 1);
        x.play();
        for (int k = 4; k <= 10; k++) {
            Scene.playFirstLost(x);
        }
        cells(x, 0, 2, 2, 0);
        x.play();
        cells(x, 0, 0, 3, 1);
    }

    /** Sent in superframe 8, it is fresh in 10, when the terminal waits. */
    private static void lateCellsOfOneThatAsksAreFresh() {
        SharedUplink x = Scene.steady(0);
        Scene.playUnheard(x, 5);
        x.send(0, 4);
        Scene.playUnheard(x, 1);
        cells(x, 0, 4, 1, 0);
        x.play();
        state(x, 0, 2, -1);
        cells(x, 0, 4, 1, 0);
        x.play();
        state(x, 0, 2, -1);
        cells(x, 4, 0, 1, 0);
    }

    private static void wrongArgumentsAreRefused() {
        int[][] wrong = {
            {-1, 0}, {5, 0}, {0, -1}, {0, 7}, {4, 7}, {-1, 7}, {Integer.MIN_VALUE, 0},
            {Integer.MAX_VALUE, 0}, {0, Integer.MIN_VALUE}, {0, Integer.MAX_VALUE},
        };
        for (int[] w : wrong) {
            CHECK.refusedAsArgument("terminal(" + w[0] + ", " + w[1] + ")",
                    x -> x.terminal(w[0], w[1]));
        }
    }
}
