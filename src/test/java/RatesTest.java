/** Promise 2. */
public final class RatesTest {
    private static final Check CHECK = new Check("RatesTest");

    public static void main(String[] args) {
        aGuaranteeIsDueWithoutNeed();
        weightsShareOutWhatIsLeft();
        guaranteesComeBeforeNeeds();
        theLatestRatesCount();
        atFirstNoughtAndOne();
        aTerminalIsNoughtToFour();
        aGuaranteeIsNoughtToFive();
        aWeightIsOneToFour();
        ratesOfOneThatIsOffAreKept();
        CHECK.end();
    }

    /** Due are 5, 5, 5, 5 and 9: four rounds behind 1, 1, 1, 1 and 5. */
    private static void aGuaranteeIsDueWithoutNeed() {
        SharedUplink x = Scene.five();
        CHECK.equal("plan without guarantees",
                ".01 231 034 214 034 214 034 21. 03. 21.", Snapshot.plan(x, 1));
        x.rates(4, 5, 1);
        x.play();
        CHECK.equal("plan that was made before",
                ".01 231 034 214 034 214 034 21. 03. 21.", Snapshot.plan(x, 0));
        CHECK.equal("plan with a guarantee of 5",
                ".40 142 340 142 340 142 340 120 34. 12.", Snapshot.plan(x, 1));
    }

    /**
     * All need much, and the terminals 0 and 4 have the weight that they had at first: due are
     * 3, 6, 8, 9 and 3, which whole quotients would not come to.
     */
    private static void weightsShareOutWhatIsLeft() {
        SharedUplink x = Scene.five();
        x.rates(1, 0, 2);
        x.rates(2, 0, 3);
        x.rates(3, 0, 4);
        for (int t = 0; t < 5; t++) {
            Scene.sendCells(x, t, 24);
        }
        x.play();
        CHECK.equal("plan by weights",
                ".32 132 132 132 032 132 430 120 34. 12.", Snapshot.plan(x, 1));
    }

    /** Terminal 4 alone needs anything: it gets the 4 that the guarantees leave. */
    private static void guaranteesComeBeforeNeeds() {
        SharedUplink x = Scene.five();
        for (int t = 0; t < 5; t++) {
            x.rates(t, 5, 1);
        }
        Scene.sendCells(x, 4, 24);
        x.play();
        CHECK.equal("plan by guarantees and one need",
                ".40 142 340 142 340 142 340 120 34. 12.", Snapshot.plan(x, 1));
    }

    private static void theLatestRatesCount() {
        SharedUplink x = Scene.five();
        x.rates(4, 5, 4);
        x.rates(4, 0, 1);
        x.play();
        CHECK.equal("plan with the guarantee taken back",
                ".01 231 034 214 034 214 034 21. 03. 21.", Snapshot.plan(x, 1));
    }

    /** "each with a GUARANTEE (at first 0), a WEIGHT (1)": setting them so changes nothing. */
    private static void atFirstNoughtAndOne() {
        SharedUplink x = Scene.five();
        SharedUplink set = Scene.five();
        for (int t = 0; t < 5; t++) {
            set.rates(t, 0, 1);
            Scene.sendCells(x, t, 24 - 3 * t);
            Scene.sendCells(set, t, 24 - 3 * t);
        }
        x.play();
        set.play();
        CHECK.equal("plan", Snapshot.plan(x, 1), Snapshot.plan(set, 1));
    }

    private static void refused(int t, int guarantee, int weight) {
        CHECK.refusedAsArgument("rates(" + t + ", " + guarantee + ", " + weight + ")",
                x -> x.rates(t, guarantee, weight));
    }

    private static void accepted(int t, int guarantee, int weight) {
        SharedUplink x = new SharedUplink();
        CHECK.accepted("rates(" + t + ", " + guarantee + ", " + weight + ")",
                () -> x.rates(t, guarantee, weight));
    }

    /** "IllegalArgumentException, where nothing else is said: there is no such terminal." */
    private static void aTerminalIsNoughtToFour() {
        accepted(0, 0, 1);
        accepted(4, 0, 1);
        refused(-1, 0, 1);
        refused(5, 0, 1);
        refused(Integer.MIN_VALUE, 5, 4);
        refused(Integer.MAX_VALUE, 5, 4);
    }

    /** "also when guarantee is not 0 .. 5": a good weight beside a wrong one is not taken. */
    private static void aGuaranteeIsNoughtToFive() {
        for (int guarantee = 0; guarantee <= 5; guarantee++) {
            accepted(4, guarantee, 1);
        }
        for (int t = 0; t < 5; t++) {
            refused(t, -1, 4);
            refused(t, 6, 4);
            refused(t, 6, 1);
        }
        refused(4, Integer.MIN_VALUE, 1);
        refused(4, Integer.MAX_VALUE, 1);
    }

    /** "or weight not 1 .. 4": a good guarantee beside a wrong one is not taken. */
    private static void aWeightIsOneToFour() {
        for (int weight = 1; weight <= 4; weight++) {
            accepted(4, 0, weight);
        }
        for (int t = 0; t < 5; t++) {
            refused(t, 5, 0);
            refused(t, 5, 5);
            refused(t, 0, 0);
        }
        refused(4, 0, -1);
        refused(4, 5, Integer.MIN_VALUE);
        refused(4, 5, Integer.MAX_VALUE);
        refused(4, 6, 5);
        refused(5, 6, 5);
    }

    /** Set before it is let in, and again while it is off: due are 5, 5, 5, 5 and 9. */
    private static void ratesOfOneThatIsOffAreKept() {
        SharedUplink x = new SharedUplink();
        x.rates(4, 5, 1);
        for (int t = 0; t < 5; t++) {
            x.power(t, true);
            x.play();
        }
        CHECK.equal("plan with a guarantee of 5",
                ".40 142 340 142 340 142 340 120 34. 12.", Snapshot.plan(x, 1));
        x.power(4, false);
        x.rates(4, 0, 1);
        x.play();
        CHECK.equal("plan without it, and with one that is off",
                ".01 231 034 214 034 214 034 21. 03. 21.", Snapshot.plan(x, 1));
    }
}
