/** Promise 2. */
public final class RatesTest {
    private static final Check CHECK = new Check("RatesTest");

    public static void main(String[] args) {
        aGuaranteeIsDueWithoutNeed();
        weightsShareOutWhatIsLeft();
        guaranteesComeBeforeNeeds();
        theLatestRatesCount();
        wrongArgumentsAreRefused();
        CHECK.end();
    }

    /** Due are 5, 5, 5, 5 and 9: four rounds behind 1, 1, 1, 1 and 5. */
    private static void aGuaranteeIsDueWithoutNeed() {
        SharedUplink x = Scene.steady(0, 1, 2, 3, 4);
        CHECK.equal("plan without guarantees",
                ".01 231 034 214 034 214 034 21. 03. 21.", Snapshot.plan(x, 1));
        x.rates(4, 5, 1);
        x.play();
        CHECK.equal("plan that was made before",
                ".01 231 034 214 034 214 034 21. 03. 21.", Snapshot.plan(x, 0));
        CHECK.equal("plan with a guarantee of 5",
                ".40 142 340 142 340 142 340 120 34. 12.", Snapshot.plan(x, 1));
    }

    /**
     * All need much, and the terminals 0 and 4 have the weight that they had at first: due are
     * 3, 6, 8, 9 and 3, which whole quotients would not come to.
     */
    private static void weightsShareOutWhatIsLeft() {
        SharedUplink x = Scene.steady(0, 1, 2, 3, 4);
        x.rates(1, 0, 2);
        x.rates(2, 0, 3);
        x.rates(3, 0, 4);
        for (int t = 0; t < 5; t++) {
            sendFour(x, t);
        }
        x.play();
        CHECK.equal("plan by weights",
                ".32 132 132 132 032 132 430 120 34. 12.", Snapshot.plan(x, 1));
    }

    /** Terminal 4 alone needs anything: it gets the 4 that the guarantees leave. */
    private static void guaranteesComeBeforeNeeds() {
        SharedUplink x = Scene.steady(0, 1, 2, 3, 4);
        for (int t = 0; t < 5; t++) {
            x.rates(t, 5, 1);
        }
        sendFour(x, 4);
        x.play();
        CHECK.equal("plan by guarantees and one need",
                ".40 142 340 142 340 142 340 120 34. 12.", Snapshot.plan(x, 1));
    }

    private static void theLatestRatesCount() {
        SharedUplink x = Scene.steady(0, 1, 2, 3, 4);
        x.rates(4, 5, 4);
        x.rates(4, 0, 1);
        x.play();
        CHECK.equal("plan with the guarantee taken back",
                ".01 231 034 214 034 214 034 21. 03. 21.", Snapshot.plan(x, 1));
    }

    private static void sendFour(SharedUplink x, int t) {
        for (int i = 0; i < 4; i++) {
            x.send(t, 6);
        }
    }

    private static void wrongArgumentsAreRefused() {
        int[][] wrong = {
            {-1, 0, 1}, {5, 0, 1}, {Integer.MIN_VALUE, 0, 1}, {Integer.MAX_VALUE, 0, 1},
            {4, -1, 1}, {4, 6, 1}, {4, Integer.MIN_VALUE, 1}, {4, Integer.MAX_VALUE, 1},
            {4, 5, 0}, {4, 5, 5}, {4, 5, -1}, {4, 5, Integer.MAX_VALUE}, {1, -1, 4}, {1, 6, 4},
        };
        for (int[] w : wrong) {
            CHECK.refusedAsArgument("rates(" + w[0] + ", " + w[1] + ", " + w[2] + ")",
                    x -> x.rates(w[0], w[1], w[2]));
        }
    }
}
