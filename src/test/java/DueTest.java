/** How many places each terminal is due in a plan: the limits of their sharing out. */
public final class DueTest {
    private static final Check CHECK = new Check("DueTest");
    private static final int MUCH = 18;

    // who is given which place when so many are due to the terminals 0 to 4
    private static final String DUE_6_6_6_6_5 = ".01 231 034 214 034 214 034 21. 03. 21.";
    private static final String DUE_6_6_6_5_6 = ".01 241 031 241 031 241 03. 24. 03. 24.";
    private static final String DUE_6_6_5_5_7 = ".40 140 123 403 123 403 123 40. 12. 40.";
    private static final String DUE_6_5_5_5_8 = ".40 140 243 041 231 401 231 40. 23. 40.";
    private static final String DUE_5_5_5_5_9 = ".40 142 340 142 340 142 340 120 34. 12.";
    private static final String DUE_4_4_3_9_9 = ".34 034 134 034 134 234 034 124 304 12.";
    private static final String DUE_9_9_9_1_1 = ".01 201 201 201 201 201 201 201 201 234";
    private static final String DUE_1_9_9_9_1 = ".12 312 312 312 312 312 312 312 302 14.";
    private static final String DUE_2_9_9_8_1 = ".12 312 312 312 312 312 312 012 312 04.";
    private static final String DUE_3_7_7_6_6 = ".12 312 412 312 402 312 402 31. 40. 31.";
    private static final String DUE_5_5_4_8_7 = ".34 034 134 032 134 024 134 024 13. 02.";
    private static final String DUE_5_5_5_8_6 = ".34 031 234 031 234 014 234 014 23. 01.";
    private static final String DUE_5_5_5_6_8 = ".43 041 243 041 231 401 231 40. 23. 40.";
    private static final String DUE_5_5_5_9_5 = ".30 132 430 132 430 132 430 120 34. 12.";
    private static final String DUE_7_7_7_7_1 = ".01 231 031 231 031 231 031 234 0.. 2..";
    private static final String DUE_8_7_7_7 = ".01 203 103 203 103 203 103 203 1.. 2..";
    private static final String DUE_7_7_7_8 = ".30 120 320 120 320 120 320 12. 3.. 1..";

    public static void main(String[] args) {
        oneAtLeast();
        aGuaranteeOfFive();
        guaranteesOfAll();
        needsNoMoreThanItIsDue();
        needsAsMuchAsItsGuarantee();
        nineByNeed();
        nineInRounds();
        twentyNineInRounds();
        twentyNineByNeed();
        twentyEightByNeed();
        allTwentyNinePlaces();
        theLeastOfSeveralByNeed();
        weightsOfOneAndFour();
        aShareThatIsTheSame();
        aGuaranteeIsNoShare();
        sharesBeginAnewInEachPlan();
        needsOfOneThatIsOffCount();
        CHECK.end();
    }

    private static SharedUplink five(int... guarantees) {
        SharedUplink x = Scene.five();
        for (int t = 0; t < guarantees.length; t++) {
            x.rates(t, guarantees[t], 1);
        }
        return x;
    }

    /** Plays superframe 7 so that the terminals need just so many cells behind it. */
    private static void play(SharedUplink x, int... needs) {
        for (int t = 0; t < needs.length; t++) {
            if (needs[t] > 0) {
                Scene.sendCells(x, t, x.places(t, 0) + needs[t]);
            }
        }
        x.play();
        for (int t = 0; t < needs.length; t++) {
            CHECK.equal("needs of " + t, needs[t], x.centre(t, 1));
        }
    }

    private static void plan(String what, String due, SharedUplink x, int... needs) {
        play(x, needs);
        CHECK.equal("plan with " + what, due, Snapshot.plan(x, 1));
    }

    /** "First each is DUE its guarantee, but 1 at least." */
    private static void oneAtLeast() {
        plan("guarantees of 0", DUE_6_6_6_6_5, five(0, 0, 0, 0, 0));
        plan("a guarantee of 1", DUE_6_6_6_6_5, five(0, 0, 0, 0, 1));
        plan("guarantees of 1", DUE_6_6_6_6_5, five(1, 1, 1, 1, 1));
        plan("a guarantee of 2", DUE_6_6_6_5_6, five(0, 0, 0, 0, 2));
    }

    private static void aGuaranteeOfFive() {
        plan("a guarantee of 3", DUE_6_6_5_5_7, five(0, 0, 0, 0, 3));
        plan("a guarantee of 4", DUE_6_5_5_5_8, five(0, 0, 0, 0, 4));
        plan("a guarantee of 5", DUE_5_5_5_5_9, five(0, 0, 0, 0, 5));
    }

    /** "(What the guarantees and 1s come to is never above 29.)": 25 at most, and 21 here. */
    private static void guaranteesOfAll() {
        plan("guarantees of 5", DUE_6_6_6_6_5, five(5, 5, 5, 5, 5));
        plan("four guarantees of 5", DUE_3_7_7_6_6, five(0, 5, 5, 5, 5));
    }

    /** "one more to the one that needs more than it is due": 1 is not more than 1, 2 is. */
    private static void needsNoMoreThanItIsDue() {
        plan("a need of 1", DUE_6_6_6_6_5, five(), 0, 0, 0, 0, 1);
        plan("a need of 2", DUE_6_6_6_5_6, five(), 0, 0, 0, 0, 2);
        plan("a need of 3", DUE_6_6_5_5_7, five(), 0, 0, 0, 0, 3);
        plan("a need of 4", DUE_6_5_5_5_8, five(), 0, 0, 0, 0, 4);
    }

    private static void needsAsMuchAsItsGuarantee() {
        plan("a need below 3", DUE_6_6_5_5_7, five(0, 0, 0, 0, 3), 0, 0, 0, 0, 2);
        plan("a need of 3", DUE_6_6_5_5_7, five(0, 0, 0, 0, 3), 0, 0, 0, 0, 3);
        plan("a need of 4", DUE_6_5_5_5_8, five(0, 0, 0, 0, 3), 0, 0, 0, 0, 4);
    }

    /** "and is due fewer than 9". */
    private static void nineByNeed() {
        plan("a need of 9", DUE_5_5_5_5_9, five(), 0, 0, 0, 0, 9);
        plan("a need of 10", DUE_5_5_5_5_9, five(), 0, 0, 0, 0, 10);
        plan("a need of 18", DUE_5_5_5_5_9, five(), 0, 0, 0, 0, MUCH);
        plan("two needs of 18", DUE_4_4_3_9_9, five(), 0, 0, 0, MUCH, MUCH);
        plan("two needs, two guarantees", DUE_4_4_3_9_9, five(0, 0, 0, 5, 5), 0, 0, 0, MUCH, MUCH);
    }

    /** "one more each to all that are due fewer than 9": 27 in all, when three are in. */
    private static void nineInRounds() {
        SharedUplink x = Scene.steady(0, 1, 2);
        for (int t = 0; t < 3; t++) {
            CHECK.equal("places of " + t, 9, x.places(t, 1));
        }
        x.rates(0, 5, 4);
        x.play();
        for (int t = 0; t < 3; t++) {
            CHECK.equal("places of " + t, 9, x.places(t, 1));
        }
    }

    /** "by numbers, round by round": the last round ends at 29. */
    private static void twentyNineInRounds() {
        SharedUplink x = Scene.steady(0, 1, 2, 3);
        CHECK.equal("plan of four", DUE_8_7_7_7, Snapshot.plan(x, 1));
        x.rates(3, 2, 1);
        x.play();
        CHECK.equal("plan of four, the last with 2", DUE_7_7_7_8, Snapshot.plan(x, 1));
    }

    /** "as long as fewer than 29 are due in all": needs alone come to 29, no round is left. */
    private static void twentyNineByNeed() {
        plan("equal needs", DUE_6_6_6_6_5, five(), MUCH, MUCH, MUCH, MUCH, MUCH);
        plan("three needs of 9", DUE_1_9_9_9_1, five(), 0, 9, 9, 9, 0);
        plan("three needs of 18", DUE_1_9_9_9_1, five(), 0, MUCH, MUCH, MUCH, 0);
    }

    private static void twentyEightByNeed() {
        plan("needs of 9, 9 and 8", DUE_2_9_9_8_1, five(), 0, 9, 9, 8, 0);
    }

    /** "the 29 others are PLACES": each of them can be given. */
    private static void allTwentyNinePlaces() {
        SharedUplink x = five();
        plan("needs of the first three", DUE_9_9_9_1_1, x, MUCH, MUCH, MUCH, 0, 0);
        x.play();
        CHECK.equal("play() in 29 places", 29, x.play());
        CHECK.equal("heard", DUE_9_9_9_1_1, Snapshot.heard(x));
    }

    /** "(of several the least one)": 13 are left for two that need as much. */
    private static void theLeastOfSeveralByNeed() {
        plan("an odd one", DUE_5_5_4_8_7, five(5, 5, 4, 0, 0), 0, 0, 0, MUCH, MUCH);
    }

    private static SharedUplink weights(int ofThree, int ofFour) {
        SharedUplink x = five(5, 5, 5, 5, 5);
        x.rates(3, 5, ofThree);
        x.rates(4, 5, ofFour);
        return x;
    }

    /** "with the least (x + 1) / weight": 4 are left; 1/4, 2/4, 3/4 and 4/4 are 1 at most. */
    private static void weightsOfOneAndFour() {
        plan("weights 4 and 1", DUE_5_5_5_9_5, weights(4, 1), 0, 0, 0, MUCH, MUCH);
    }

    /** 4/4 of terminal 4 is as much as 1/1 of terminal 3, 3/3 of 3 as much as 1/1 of 4. */
    private static void aShareThatIsTheSame() {
        plan("weights 1 and 4", DUE_5_5_5_6_8, weights(1, 4), 0, 0, 0, MUCH, MUCH);
        plan("weights 3 and 1", DUE_5_5_5_8_6, weights(3, 1), 0, 0, 0, MUCH, MUCH);
    }

    /** "x being how many it got so": by need, not by its guarantee; four each are left here. */
    private static void aGuaranteeIsNoShare() {
        plan("a guarantee beside needs", DUE_5_5_5_5_9, five(0, 0, 0, 0, 5),
                MUCH, MUCH, MUCH, MUCH, MUCH);
    }

    /** Terminal 0 alone gets 8 by need in the plan of 9, and its like share in that of 10. */
    private static void sharesBeginAnewInEachPlan() {
        SharedUplink x = five();
        play(x, MUCH, 0, 0, 0, 0);
        CHECK.equal("places of 0 in 9", 9, x.places(0, 1));
        for (int t = 1; t < 5; t++) {
            Scene.sendCells(x, t, 24);
        }
        x.play();
        CHECK.equal("plan with equal needs", DUE_6_6_6_6_5, Snapshot.plan(x, 1));
    }

    /** In for a while still, they are due what they needed last: 7, 7, 7 and 7. */
    private static void needsOfOneThatIsOffCount() {
        SharedUplink x = five(5, 5, 5, 5, 0);
        play(x, MUCH, MUCH, MUCH, MUCH, 0);
        for (int t = 0; t < 4; t++) {
            x.power(t, false);
        }
        x.play();
        CHECK.equal("plan with four that are off", DUE_7_7_7_7_1, Snapshot.plan(x, 1));
    }
}
