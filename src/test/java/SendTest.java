/** Promise 5. */
public final class SendTest {
    private static final Check CHECK = new Check("SendTest");

    public static void main(String[] args) {
        numbersGoUpByTerminal();
        twentyFourCellsAtMost();
        cellsUnderWayCountAndGoneOnesDoNot();
        failedCellsMakeRoom();
        twentyFourDatagramsOfOneCell();
        theSixtiethIsMade();
        sixtyDatagramsAtMost();
        failedDatagramsCountAmongTheSixty();
        aNewDatagramIsFreshInEveryWay();
        aTerminalIsNoughtToFour();
        oneToSixCells();
        fullOnesAreRefused();
        theArgumentIsNamedFirst();
        CHECK.end();
    }

    private static void numbersGoUpByTerminal() {
        SharedUplink x = new SharedUplink();
        CHECK.equal("first of 0", 1, x.send(0, 1));
        CHECK.equal("second of 0", 2, x.send(0, 6));
        CHECK.equal("first of 4", 1, x.send(4, 3));
        CHECK.equal("third of 0", 3, x.send(0, 2));
        CHECK.equal("fresh of 0", 9, x.terminal(0, 3));
        CHECK.equal("fresh of 4", 3, x.terminal(4, 3));
        CHECK.equal("under way of 0", 0, x.terminal(0, 4));
        CHECK.equal("off", 0, x.terminal(0, 0));
        CHECK.equal("base", 1, x.terminal(0, 5));
    }

    private static void twentyFourCellsAtMost() {
        SharedUplink x = new SharedUplink();
        x.send(1, 6);
        x.send(1, 6);
        x.send(1, 6);
        x.send(1, 5);
        CHECK.refused("send of 2 beside 23", IllegalStateException.class, () -> x.send(1, 2));
        CHECK.equal("send of 1 beside 23", 5, x.send(1, 1));
        CHECK.refused("send of 1 beside 24", IllegalStateException.class, () -> x.send(1, 1));
        CHECK.equal("send of another", 1, x.send(2, 6));
        CHECK.equal("fresh", 24, x.terminal(1, 3));
    }

    private static void cellsUnderWayCountAndGoneOnesDoNot() {
        SharedUplink x = Scene.steady(0);
        for (int i = 0; i < 4; i++) {
            x.send(0, 6);
        }
        x.play();
        CHECK.equal("under way", 9, x.terminal(0, 4));
        CHECK.refused("send beside those under way", IllegalStateException.class,
                () -> x.send(0, 1));
        x.play();
        CHECK.refused("send before it is told", IllegalStateException.class, () -> x.send(0, 1));
        x.play();
        CHECK.equal("send of 6 beside 15", 5, x.send(0, 6));
        CHECK.refused("send of 4 beside 21", IllegalStateException.class, () -> x.send(0, 4));
        CHECK.equal("send of 3 beside 21", 6, x.send(0, 3));
    }

    /** Four datagrams fill it; the first one fails, and six cells may come in its stead. */
    private static void failedCellsMakeRoom() {
        SharedUplink x = Scene.steady(0);
        Scene.sendCells(x, 0, 24);
        for (int i = 0; i < 4; i++) {
            Scene.playFirstLost(x);
            x.play();
        }
        CHECK.equal("failed", 0, x.terminal(0, 6));
        CHECK.equal("base", 1, x.terminal(0, 5));
        CHECK.equal("cells that are not gone", 1, x.terminal(0, 3) + x.terminal(0, 4));
        x.send(0, 6);
        x.send(0, 6);
        x.send(0, 6);
        x.send(0, 5);
        CHECK.refused("send(0, 1) beside 24", IllegalStateException.class, () -> x.send(0, 1));
        x.play();
        CHECK.equal("failed", 1, x.terminal(0, 6));
        CHECK.refused("send(0, 2) beside 23", IllegalStateException.class, () -> x.send(0, 2));
        CHECK.equal("send(0, 1) beside 23", 9, x.send(0, 1));
    }

    private static void twentyFourDatagramsOfOneCell() {
        SharedUplink x = new SharedUplink();
        for (int number = 1; number <= 24; number++) {
            CHECK.equal("number", number, x.send(3, 1));
        }
        CHECK.refused("the 25th", IllegalStateException.class, () -> x.send(3, 1));
        CHECK.equal("fresh", 24, x.terminal(3, 3));
        CHECK.equal("base", 1, x.terminal(3, 5));
    }

    /** So many datagrams of one cell each, the latest of which are not gone yet. */
    private static SharedUplink withMade(int datagrams) {
        SharedUplink x = Scene.steady(0);
        for (int number = 1; number <= datagrams; number++) {
            CHECK.equal("number", number, x.send(0, 1));
            if (number % 8 == 0) {
                x.play();
            }
        }
        return x;
    }

    private static SharedUplink withSixtyMade() {
        SharedUplink x = withMade(60);
        Scene.play(x, 3);
        return x;
    }

    /** "made 60 datagrams": with 59 made one more may be, with 60 none. */
    private static void theSixtiethIsMade() {
        SharedUplink x = withMade(59);
        CHECK.equal("the 60th", 60, x.send(0, 1));
        CHECK.equal("base", 41, x.terminal(0, 5));
        CHECK.refused("the 61st, beside cells", IllegalStateException.class, () -> x.send(0, 1));
        Scene.play(x, 3);
        CHECK.equal("arrived", 60, x.centre(0, 3));
    }

    private static void sixtyDatagramsAtMost() {
        SharedUplink x = withSixtyMade();
        CHECK.equal("base", 61, x.terminal(0, 5));
        CHECK.equal("expected", 61, x.centre(0, 2));
        CHECK.equal("arrived", 60, x.centre(0, 3));
        CHECK.equal("latest", 60, x.centre(0, 4));
        CHECK.equal("cells", 0, x.terminal(0, 3) + x.terminal(0, 4));
        CHECK.refused("the 61st", IllegalStateException.class, () -> x.send(0, 1));
        CHECK.refused("the 61st", IllegalStateException.class, () -> x.send(0, 6));
        x.power(0, false);
        CHECK.refused("the 61st of one that is off", IllegalStateException.class,
                () -> x.send(0, 1));
        CHECK.equal("send of another", 1, x.send(1, 1));
    }

    /** The first of 60 fails, and is made all the same. */
    private static void failedDatagramsCountAmongTheSixty() {
        SharedUplink x = Scene.steady(0);
        x.send(0, 1);
        for (int i = 0; i < 4; i++) {
            Scene.playFirstLost(x);
            x.play();
        }
        x.play();
        CHECK.equal("failed", 1, x.terminal(0, 6));
        for (int number = 2; number <= 60; number++) {
            CHECK.equal("number", number, x.send(0, 1));
            if (number % 8 == 0) {
                x.play();
            }
        }
        CHECK.refused("the 61st", IllegalStateException.class, () -> x.send(0, 1));
        Scene.play(x, 3);
        CHECK.refused("the 61st", IllegalStateException.class, () -> x.send(0, 1));
        CHECK.equal("arrived", 59, x.centre(0, 3));
        CHECK.equal("expected", 61, x.centre(0, 2));
    }

    /** Made where others failed: it is sent four times itself before it fails. */
    private static void aNewDatagramIsFreshInEveryWay() {
        SharedUplink x = Scene.steady(0);
        for (int number = 1; number <= 3; number++) {
            CHECK.equal("number", number, x.send(0, 1));
            CHECK.equal("fresh", 1, x.terminal(0, 3));
            CHECK.equal("under way", 0, x.terminal(0, 4));
            for (int i = 0; i < 4; i++) {
                Scene.playFirstLost(x);
                x.play();
                CHECK.equal("under way", 1, x.terminal(0, 4));
                CHECK.equal("failed", number - 1, x.terminal(0, 6));
            }
            x.play();
            CHECK.equal("failed", number, x.terminal(0, 6));
        }
    }

    private static void refused(int t, int cells) {
        CHECK.refusedAsArgument("send(" + t + ", " + cells + ")", x -> x.send(t, cells));
    }

    /** "IllegalArgumentException": there is no such terminal. */
    private static void aTerminalIsNoughtToFour() {
        SharedUplink x = new SharedUplink();
        CHECK.equal("send(0, 1)", 1, x.send(0, 1));
        CHECK.equal("send(4, 1)", 1, x.send(4, 1));
        for (int t : new int[] {-1, 5, Integer.MIN_VALUE, Integer.MAX_VALUE}) {
            refused(t, 1);
            refused(t, 6);
        }
        refused(-1, 7);
        refused(5, 0);
    }

    /** "also when cells is not 1 .. 6". */
    private static void oneToSixCells() {
        SharedUplink x = new SharedUplink();
        int fresh = 0;
        for (int cells = 1; cells <= 6; cells++) {
            CHECK.equal("send(2, " + cells + ")", cells, x.send(2, cells));
            fresh += cells;
            CHECK.equal("fresh", fresh, x.terminal(2, 3));
        }
        for (int cells : new int[] {0, 7, -1, 24, Integer.MIN_VALUE, Integer.MAX_VALUE}) {
            refused(0, cells);
            refused(4, cells);
        }
    }

    private static SharedUplink withFullOnes() {
        SharedUplink x = Scene.steady(0, 1);
        Scene.sendCells(x, 0, 24);
        Scene.sendCells(x, 1, 23);
        return x;
    }

    private static SharedUplink withFullOnesUnderWay() {
        SharedUplink x = withFullOnes();
        x.play();
        return x;
    }

    /** "IllegalStateException: it would have more than 24 cells .., or made 60 datagrams." */
    private static void fullOnesAreRefused() {
        Class<IllegalStateException> state = IllegalStateException.class;
        CHECK.refused("send(0, 1) beside 24", state, SendTest::withFullOnes, x -> x.send(0, 1));
        CHECK.refused("send(0, 6) beside 24", state, SendTest::withFullOnes, x -> x.send(0, 6));
        CHECK.refused("send(1, 2) beside 23", state, SendTest::withFullOnes, x -> x.send(1, 2));
        CHECK.refused("send(0, 1) beside 24, some under way", state,
                SendTest::withFullOnesUnderWay, x -> x.send(0, 1));
        CHECK.refused("send(0, 1) behind 60", state, SendTest::withSixtyMade, x -> x.send(0, 1));
        CHECK.refused("send(0, 1) behind 60, some not gone", state,
                () -> withMade(60), x -> x.send(0, 1));
    }

    /** "the one named first when several would do". */
    private static void theArgumentIsNamedFirst() {
        Class<IllegalArgumentException> argument = IllegalArgumentException.class;
        for (int cells : new int[] {0, 7, -1, Integer.MIN_VALUE, Integer.MAX_VALUE}) {
            CHECK.refused("send(0, " + cells + ") beside 24", argument,
                    SendTest::withFullOnes, x -> x.send(0, cells));
            CHECK.refused("send(0, " + cells + ") behind 60", argument,
                    SendTest::withSixtyMade, x -> x.send(0, cells));
        }
        CHECK.refused("send(5, 1) beside 24", argument, SendTest::withFullOnes, x -> x.send(5, 1));
        CHECK.refused("send(-1, 6) behind 60", argument,
                SendTest::withSixtyMade, x -> x.send(-1, 6));
    }
}
