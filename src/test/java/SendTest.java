/** Promise 5. */
public final class SendTest {
    private static final Check CHECK = new Check("SendTest");

    public static void main(String[] args) {
        numbersGoUpByTerminal();
        twentyFourCellsAtMost();
        cellsUnderWayCountAndGoneOnesDoNot();
        sixtyDatagramsAtMost();
        aNewDatagramIsFreshInEveryWay();
        wrongArgumentsAreRefused();
        fullOnesAreRefused();
        CHECK.end();
    }

    private static void numbersGoUpByTerminal() {
        SharedUplink x = new SharedUplink();
        CHECK.equal("first of 0", 1, x.send(0, 1));
        CHECK.equal("second of 0", 2, x.send(0, 6));
        CHECK.equal("first of 4", 1, x.send(4, 3));
        CHECK.equal("third of 0", 3, x.send(0, 2));
        CHECK.equal("fresh of 0", 9, x.terminal(0, 3));
        CHECK.equal("fresh of 4", 3, x.terminal(4, 3));
        CHECK.equal("under way of 0", 0, x.terminal(0, 4));
        CHECK.equal("off", 0, x.terminal(0, 0));
        CHECK.equal("base", 1, x.terminal(0, 5));
    }

    private static void twentyFourCellsAtMost() {
        SharedUplink x = new SharedUplink();
        x.send(1, 6);
        x.send(1, 6);
        x.send(1, 6);
        x.send(1, 5);
        CHECK.refused("send of 2 beside 23", IllegalStateException.class, () -> x.send(1, 2));
        CHECK.equal("send of 1 beside 23", 5, x.send(1, 1));
        CHECK.refused("send of 1 beside 24", IllegalStateException.class, () -> x.send(1, 1));
        CHECK.equal("send of another", 1, x.send(2, 6));
        CHECK.equal("fresh", 24, x.terminal(1, 3));
    }

    private static void cellsUnderWayCountAndGoneOnesDoNot() {
        SharedUplink x = Scene.steady(0);
        for (int i = 0; i < 4; i++) {
            x.send(0, 6);
        }
        x.play();
        CHECK.equal("under way", 9, x.terminal(0, 4));
        CHECK.refused("send beside those under way", IllegalStateException.class,
                () -> x.send(0, 1));
        x.play();
        CHECK.refused("send before it is told", IllegalStateException.class, () -> x.send(0, 1));
        x.play();
        CHECK.equal("send of 6 beside 15", 5, x.send(0, 6));
        CHECK.refused("send of 4 beside 21", IllegalStateException.class, () -> x.send(0, 4));
        CHECK.equal("send of 3 beside 21", 6, x.send(0, 3));
    }

    private static SharedUplink withSixtyMade() {
        SharedUplink x = Scene.steady(0);
        for (int number = 1; number <= 60; number++) {
            CHECK.equal("number", number, x.send(0, 1));
            if (number % 8 == 0) {
                x.play();
            }
        }
        Scene.play(x, 3);
        return x;
    }

    private static void sixtyDatagramsAtMost() {
        SharedUplink x = withSixtyMade();
        CHECK.equal("base", 61, x.terminal(0, 5));
        CHECK.equal("expected", 61, x.centre(0, 2));
        CHECK.equal("arrived", 60, x.centre(0, 3));
        CHECK.equal("latest", 60, x.centre(0, 4));
        CHECK.refused("send behind 60", IllegalStateException.class, () -> x.send(0, 1));
        CHECK.equal("send of another", 1, x.send(1, 1));
    }

    /** Made where others failed: it is sent four times itself before it fails. */
    private static void aNewDatagramIsFreshInEveryWay() {
        SharedUplink x = Scene.steady(0);
        for (int number = 1; number <= 3; number++) {
            CHECK.equal("number", number, x.send(0, 1));
            CHECK.equal("fresh", 1, x.terminal(0, 3));
            CHECK.equal("under way", 0, x.terminal(0, 4));
            for (int i = 0; i < 4; i++) {
                Scene.playFirstLost(x);
                x.play();
                CHECK.equal("under way", 1, x.terminal(0, 4));
                CHECK.equal("failed", number - 1, x.terminal(0, 6));
            }
            x.play();
            CHECK.equal("failed", number, x.terminal(0, 6));
        }
    }

    private static void wrongArgumentsAreRefused() {
        int[][] wrong = {
            {-1, 1}, {5, 1}, {Integer.MIN_VALUE, 1}, {Integer.MAX_VALUE, 1},
            {0, 0}, {0, 7}, {0, -1}, {0, Integer.MIN_VALUE}, {0, Integer.MAX_VALUE}, {-1, 7},
        };
        for (int[] w : wrong) {
            CHECK.refusedAsArgument("send(" + w[0] + ", " + w[1] + ")", x -> x.send(w[0], w[1]));
        }
    }

    private static SharedUplink withFullOnes() {
        SharedUplink x = Scene.steady(0, 1);
        for (int i = 0; i < 4; i++) {
            x.send(0, 6);
        }
        return x;
    }

    private static void fullOnesAreRefused() {
        CHECK.refused("send(0, 1) when full", IllegalStateException.class,
                SendTest::withFullOnes, x -> x.send(0, 1));
        CHECK.refused("send(0, 7) when full", IllegalArgumentException.class,
                SendTest::withFullOnes, x -> x.send(0, 7));
        CHECK.refused("send(0, 0) when full", IllegalArgumentException.class,
                SendTest::withFullOnes, x -> x.send(0, 0));
        CHECK.refused("send(0, 1) behind 60", IllegalStateException.class,
                SendTest::withSixtyMade, x -> x.send(0, 1));
        CHECK.refused("send(0, 7) behind 60", IllegalArgumentException.class,
                SendTest::withSixtyMade, x -> x.send(0, 7));
    }
}
