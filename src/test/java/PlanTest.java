/** Promises 11 and 12. */
public final class PlanTest {
    private static final Check CHECK = new Check("PlanTest");
    private static final String NOBODY = "... ... ... ... ... ... ... ... ... ...";

    public static void main(String[] args) {
        plansOfOneToFive();
        aPlanComesTwoAhead();
        oneNeedAmongMany();
        aSmallNeedGetsNoMoreByIt();
        equalSharesGoToTheLeast();
        placesAreCounted();
        theFirstTwoSuperframesAreEmpty();
        nobodyIsIn();
        theDoorIsNobodys();
        eachPlaceHasItsRules();
        placesOfNobody();
        notAllThatIsDueIsGiven();
        plansBehindTheLastSuperframe();
        thereAreTenSlotsAndThreeCarriers();
        aheadIsNoughtOrOne();
        aTerminalIsNoughtToFour();
        CHECK.end();
    }

    private static void plansOfOneToFive() {
        String[] due = {
            ".0. .0. .0. .0. .0. .0. .0. .0. .0. ...",
            ".01 .01 .01 .01 .01 .01 .01 .01 .01 ...",
            ".01 201 201 201 201 201 201 201 201 2..",
            ".01 203 103 203 103 203 103 203 1.. 2..",
            ".01 231 034 214 034 214 034 21. 03. 21.",
        };
        SharedUplink x = new SharedUplink();
        String before = NOBODY;
        for (int t = 0; t < 5; t++) {
            x.power(t, true);
            x.play();
            CHECK.equal("plan with " + (t + 1), due[t], Snapshot.plan(x, 1));
            CHECK.equal("plan made before", before, Snapshot.plan(x, 0));
            before = due[t];
        }
    }

    private static void aPlanComesTwoAhead() {
        SharedUplink x = new SharedUplink();
        x.power(3, true);
        CHECK.equal("plan of 0", NOBODY, Snapshot.plan(x, 0));
        CHECK.equal("plan of 1", NOBODY, Snapshot.plan(x, 1));
        x.play();
        CHECK.equal("plan of 1", NOBODY, Snapshot.plan(x, 0));
        CHECK.equal("plan of 2", ".3. .3. .3. .3. .3. .3. .3. .3. .3. ...", Snapshot.plan(x, 1));
        x.play();
        x.play();
        CHECK.equal("heard as planned",
                ".3. .3. .3. .3. .3. .3. .3. .3. .3. ...", Snapshot.heard(x));
    }

    /** Due are 1, 1, 1, 1 and, by need, 9; then four rounds: 5, 5, 5, 5 and 9. */
    private static void oneNeedAmongMany() {
        SharedUplink x = Scene.five();
        for (int i = 0; i < 4; i++) {
            x.send(4, 6);
        }
        x.play();
        CHECK.equal("plan by one need",
                ".40 142 340 142 340 142 340 120 34. 12.", Snapshot.plan(x, 1));
    }

    /** Terminal 4 needs 2: due are 1, 1, 1, 1 and 2, and behind the rounds 6, 6, 6, 5 and 6. */
    private static void aSmallNeedGetsNoMoreByIt() {
        SharedUplink x = Scene.five();
        x.send(4, 6);
        x.send(4, 1);
        x.play();
        CHECK.equal("needs", 2, x.centre(4, 1));
        CHECK.equal("plan by a small need",
                ".01 241 031 241 031 241 03. 24. 03. 24.", Snapshot.plan(x, 1));
    }

    /** All five need much with equal weights: due are 6, 6, 6, 6 and 5, as without a need. */
    private static void equalSharesGoToTheLeast() {
        SharedUplink x = Scene.five();
        for (int t = 0; t < 5; t++) {
            for (int i = 0; i < 4; i++) {
                x.send(t, 6);
            }
        }
        x.play();
        CHECK.equal("plan by equal needs",
                ".01 231 034 214 034 214 034 21. 03. 21.", Snapshot.plan(x, 1));
    }

    private static void placesAreCounted() {
        SharedUplink x = Scene.five();
        x.rates(4, 5, 1);
        x.play();
        int[] next = {5, 6, 5, 5, 5};
        int[] behind = {5, 5, 5, 4, 8};
        for (int t = 0; t < 5; t++) {
            CHECK.equal("places(" + t + ", 0)", next[t], x.places(t, 0));
            CHECK.equal("places(" + t + ", 1)", behind[t], x.places(t, 1));
        }
    }

    /** "(The first two superframes have plans without anybody.)" The third need not. */
    private static void theFirstTwoSuperframesAreEmpty() {
        SharedUplink x = new SharedUplink();
        x.power(0, true);
        CHECK.equal("plan of 0", NOBODY, Snapshot.plan(x, 0));
        CHECK.equal("plan of 1", NOBODY, Snapshot.plan(x, 1));
        CHECK.equal("play() in 0: the door alone", 1, x.play());
        CHECK.equal("plan of 1", NOBODY, Snapshot.plan(x, 0));
        CHECK.equal("places in 2", 9, x.places(0, 1));
    }

    /** "A PLAN is for those that are in": all are on, but none was heard. */
    private static void nobodyIsIn() {
        SharedUplink x = new SharedUplink();
        x.power(0, true);
        x.power(1, true);
        x.rates(0, 5, 4);
        x.send(0, 6);
        x.play();
        CHECK.equal("plan of 1", NOBODY, Snapshot.plan(x, 0));
        CHECK.equal("plan of 2", NOBODY, Snapshot.plan(x, 1));
    }

    /** "NONE for nobody, and for the door". */
    private static void theDoorIsNobodys() {
        SharedUplink x = Scene.crowded();
        for (int i = 0; i < 6; i++) {
            CHECK.equal("plan(0, 0, 0)", SharedUplink.NONE, x.plan(0, 0, 0));
            CHECK.equal("plan(0, 0, 1)", SharedUplink.NONE, x.plan(0, 0, 1));
            x.play();
        }
        x = Scene.steady(0);
        x.power(4, true);
        x.play();
        CHECK.equal("heard in the door", 4, x.heard(0, 0));
        CHECK.equal("plan(0, 0, 0)", SharedUplink.NONE, x.plan(0, 0, 0));
        CHECK.equal("plan(0, 1, 0)", 0, x.plan(0, 1, 0));
        CHECK.equal("plan(0, 2, 0) of nobody", SharedUplink.NONE, x.plan(0, 2, 0));
    }

    /**
     * "no other place in this slot, nor one of another carrier in the slot before": in plans of
     * several kinds, place by place.
     */
    private static void eachPlaceHasItsRules() {
        SharedUplink x = Scene.crowded();
        for (int i = 0; i < 3; i++) {
            for (int slot = 0; slot < 10; slot++) {
                for (int carrier = 0; carrier < 3; carrier++) {
                    looksRight(x, slot, carrier);
                }
            }
            x = i == 0 ? Scene.five() : Scene.steady(0, 1, 2, 3);
        }
    }

    private static void looksRight(SharedUplink x, int slot, int carrier) {
        int owner = x.plan(slot, carrier, 1);
        for (int other = 0; other < 3 && owner != SharedUplink.NONE; other++) {
            if (other != carrier) {
                String place = owner + " in " + slot + ", " + carrier;
                CHECK.equal(place + ": another in the slot", 0,
                        x.plan(slot, other, 1) == owner ? 1 : 0);
                CHECK.equal(place + ": another in the slot before", 0,
                        slot > 0 && x.plan(slot - 1, other, 1) == owner ? 1 : 0);
            }
        }
    }

    private static void placesOfNobody() {
        SharedUplink x = Scene.steady(2);
        for (int t = 0; t < 5; t++) {
            CHECK.equal("places(" + t + ", 0)", t == 2 ? 9 : 0, x.places(t, 0));
            CHECK.equal("places(" + t + ", 1)", t == 2 ? 9 : 0, x.places(t, 1));
        }
    }

    /** "What is not given so is not": due are 29, given 26, and no more the next time. */
    private static void notAllThatIsDueIsGiven() {
        SharedUplink x = Scene.five();
        for (int i = 0; i < 3; i++) {
            int given = 0;
            for (int t = 0; t < 5; t++) {
                given += x.places(t, 1);
            }
            CHECK.equal("places in all", 26, given);
            x.play();
        }
    }

    /** Superframe 500 is never played, but its plan was made by 498; that of 501 by 499. */
    private static void plansBehindTheLastSuperframe() {
        SharedUplink x = Scene.steady(0);
        Scene.play(x, 496);
        x.power(1, true);
        x.play();
        CHECK.equal("places(0, 0)", 9, x.places(0, 0));
        CHECK.equal("places(1, 0)", 0, x.places(1, 0));
        CHECK.equal("places(1, 1)", 9, x.places(1, 1));
        CHECK.equal("plan(8, 2, 1)", 1, x.plan(8, 2, 1));
        CHECK.equal("plan(9, 2, 1)", SharedUplink.NONE, x.plan(9, 2, 1));
    }

    /** "there is no such slot or carrier". */
    private static void thereAreTenSlotsAndThreeCarriers() {
        SharedUplink full = Scene.five();
        CHECK.equal("plan(0, 0, 0)", SharedUplink.NONE, full.plan(0, 0, 0));
        CHECK.equal("plan(0, 2, 0)", 1, full.plan(0, 2, 0));
        CHECK.equal("plan(9, 0, 0)", 2, full.plan(9, 0, 0));
        CHECK.equal("plan(9, 2, 0)", SharedUplink.NONE, full.plan(9, 2, 0));
        for (int[] w : Scene.wrongSlots()) {
            for (int ahead = 0; ahead <= 1; ahead++) {
                int a = ahead;
                CHECK.refusedAsArgument("plan(" + w[0] + ", " + w[1] + ", " + a + ")",
                        x -> x.plan(w[0], w[1], a));
            }
        }
    }

    /** "or ahead is neither", "also when ahead is neither". */
    private static void aheadIsNoughtOrOne() {
        for (int ahead : new int[] {-1, 2, -2, 3, Integer.MIN_VALUE, Integer.MAX_VALUE}) {
            CHECK.refusedAsArgument("plan(0, 0, " + ahead + ")", x -> x.plan(0, 0, ahead));
            CHECK.refusedAsArgument("plan(9, 2, " + ahead + ")", x -> x.plan(9, 2, ahead));
            CHECK.refusedAsArgument("places(0, " + ahead + ")", x -> x.places(0, ahead));
            CHECK.refusedAsArgument("places(4, " + ahead + ")", x -> x.places(4, ahead));
        }
        CHECK.refusedAsArgument("plan(10, 3, 2)", x -> x.plan(10, 3, 2));
        CHECK.refusedAsArgument("places(5, 2)", x -> x.places(5, 2));
    }

    /** "IllegalArgumentException": there is no such terminal; -1, too, though NONE has places. */
    private static void aTerminalIsNoughtToFour() {
        for (int t : new int[] {-1, 5, Integer.MIN_VALUE, Integer.MAX_VALUE}) {
            CHECK.refusedAsArgument("places(" + t + ", 0)", x -> x.places(t, 0));
            CHECK.refusedAsArgument("places(" + t + ", 1)", x -> x.places(t, 1));
        }
    }
}
