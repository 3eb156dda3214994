/** Promises 11 and 12. */
public final class PlanTest {
    private static final Check CHECK = new Check("PlanTest");
    private static final String NOBODY = "... ... ... ... ... ... ... ... ... ...";

    public static void main(String[] args) {
        plansOfOneToFive();
        aPlanComesTwoAhead();
        oneNeedAmongMany();
        aSmallNeedGetsNoMoreByIt();
        equalSharesGoToTheLeast();
        placesAreCounted();
        wrongArgumentsAreRefused();
        CHECK.end();
    }

    private static void plansOfOneToFive() {
        String[] due = {
            ".0. .0. .0. .0. .0. .0. .0. .0. .0. ...",
            ".01 .01 .01 .01 .01 .01 .01 .01 .01 ...",
            ".01 201 201 201 201 201 201 201 201 2..",
            ".01 203 103 203 103 203 103 203 1.. 2..",
            ".01 231 034 214 034 214 034 21. 03. 21.",
        };
        SharedUplink x = new SharedUplink();
        String before = NOBODY;
        for (int t = 0; t < 5; t++) {
            x.power(t, true);
            x.play();
            CHECK.equal("plan with " + (t + 1), due[t], Snapshot.plan(x, 1));
            CHECK.equal("plan made before", before, Snapshot.plan(x, 0));
            before = due[t];
        }
    }

    private static void aPlanComesTwoAhead() {
        SharedUplink x = new SharedUplink();
        x.power(3, true);
        CHECK.equal("plan of 0", NOBODY, Snapshot.plan(x, 0));
        CHECK.equal("plan of 1", NOBODY, Snapshot.plan(x, 1));
        x.play();
        CHECK.equal("plan of 1", NOBODY, Snapshot.plan(x, 0));
        CHECK.equal("plan of 2", ".3. .3. .3. .3. .3. .3. .3. .3. .3. ...", Snapshot.plan(x, 1));
        x.play();
        x.play();
        CHECK.equal("heard as planned",
                ".3. .3. .3. .3. .3. .3. .3. .3. .3. ...", Snapshot.heard(x));
    }

    /** Due are 1, 1, 1, 1 and, by need, 9; then four rounds: 5, 5, 5, 5 and 9. */
    private static void oneNeedAmongMany() {
        SharedUplink x = Scene.steady(0, 1, 2, 3, 4);
        for (int i = 0; i < 4; i++) {
            x.send(4, 6);
        }
        x.play();
        CHECK.equal("plan by one need",
                ".40 142 340 142 340 142 340 120 34. 12.", Snapshot.plan(x, 1));
    }

    /** Terminal 4 needs 2: due are 1, 1, 1, 1 and 2, and behind the rounds 6, 6, 6, 5 and 6. */
    private static void aSmallNeedGetsNoMoreByIt() {
        SharedUplink x = Scene.steady(0, 1, 2, 3, 4);
        x.send(4, 6);
        x.send(4, 1);
        x.play();
        CHECK.equal("needs", 2, x.centre(4, 1));
        CHECK.equal("plan by a small need",
                ".01 241 031 241 031 241 03. 24. 03. 24.", Snapshot.plan(x, 1));
    }

    /** All five need much with equal weights: due are 6, 6, 6, 6 and 5, as without a need. */
    private static void equalSharesGoToTheLeast() {
        SharedUplink x = Scene.steady(0, 1, 2, 3, 4);
        for (int t = 0; t < 5; t++) {
            for (int i = 0; i < 4; i++) {
                x.send(t, 6);
            }
        }
        x.play();
        CHECK.equal("plan by equal needs",
                ".01 231 034 214 034 214 034 21. 03. 21.", Snapshot.plan(x, 1));
    }

    private static void placesAreCounted() {
        SharedUplink x = Scene.steady(0, 1, 2, 3, 4);
        x.rates(4, 5, 1);
        x.play();
        int[] next = {5, 6, 5, 5, 5};
        int[] behind = {5, 5, 5, 4, 8};
        for (int t = 0; t < 5; t++) {
            CHECK.equal("places(" + t + ", 0)", next[t], x.places(t, 0));
            CHECK.equal("places(" + t + ", 1)", behind[t], x.places(t, 1));
        }
    }

    private static void wrongArgumentsAreRefused() {
        int[][] wrong = {
            {-1, 0, 0}, {10, 0, 0}, {0, -1, 0}, {0, 3, 0}, {1, 3, 1}, {3, -1, 1}, {0, 0, -1},
            {0, 0, 2}, {9, 2, 2}, {10, 3, 2}, {Integer.MIN_VALUE, 0, 0},
            {Integer.MAX_VALUE, 0, 0}, {0, Integer.MIN_VALUE, 0}, {0, Integer.MAX_VALUE, 0},
            {0, 0, Integer.MIN_VALUE}, {0, 0, Integer.MAX_VALUE},
        };
        for (int[] w : wrong) {
            CHECK.refusedAsArgument("plan(" + w[0] + ", " + w[1] + ", " + w[2] + ")",
                    x -> x.plan(w[0], w[1], w[2]));
        }
        int[][] wrongOfPlaces = {
            {-1, 0}, {5, 0}, {0, -1}, {0, 2}, {5, 2}, {Integer.MIN_VALUE, 0},
            {Integer.MAX_VALUE, 1}, {0, Integer.MIN_VALUE}, {0, Integer.MAX_VALUE},
        };
        for (int[] w : wrongOfPlaces) {
            CHECK.refusedAsArgument("places(" + w[0] + ", " + w[1] + ")",
                    x -> x.places(w[0], w[1]));
        }
    }
}
