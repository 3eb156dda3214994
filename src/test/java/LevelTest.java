/** Step 6 of a superframe: levels, and the coins that they go by. */
public final class LevelTest {
    private static final Check CHECK = new Check("LevelTest");

    public static void main(String[] args) {
        levelsGoUpAndDown();
        noneInTheDoor();
        oneInTheDoor();
        oneInALostDoor();
        twoInTheDoor();
        aLevelOfThree();
        aLevelAboveNoughtIsSilent();
        levelsOfAskingOnesAlone();
        theCoinsOfTheFirstSuperframe();
        theCoinsOfEverySuperframe();
        theCoinsOfTheLastSuperframe();
        CHECK.end();
    }

    private static void state(SharedUplink x, int t, int state, int level) {
        CHECK.equal("state of " + t, state, x.terminal(t, 0));
        CHECK.equal("level of " + t, level, x.terminal(t, 1));
    }

    private static void levels(SharedUplink x, int... due) {
        String when = " behind " + (x.played() - 1);
        for (int t = 0; t < due.length; t++) {
            CHECK.equal("level of " + t + when, due[t], x.terminal(t, 1));
        }
    }

    private static SharedUplink asking(int... terminals) {
        SharedUplink x = new SharedUplink();
        for (int t : terminals) {
            x.power(t, true);
        }
        return x;
    }

    private static void askAnew(SharedUplink x, int t) {
        x.power(t, false);
        x.power(t, true);
    }

    /** The coins: 1, 0, 0 in superframe 0 and, of terminals 1 and 2, 0 and 1 in superframe 1. */
    private static void levelsGoUpAndDown() {
        SharedUplink x = asking(0, 1, 2);
        int[][] levels = {{1, 0, 0}, {2, 0, 1}, {1, -1, 0}, {0, -1, -1}, {-1, -1, -1}};
        int[][] states = {{1, 1, 1}, {1, 1, 1}, {1, 2, 1}, {1, 2, 2}, {2, 3, 2}};
        for (int k = 0; k < levels.length; k++) {
            x.play();
            for (int t = 0; t < 3; t++) {
                state(x, t, states[k][t], levels[k][t]);
            }
        }
    }

    /** "When there was none .. all levels above 0 go down by 1": from 2 to 1, from 1 to 0. */
    private static void noneInTheDoor() {
        SharedUplink x = asking(0, 1, 2);
        Scene.play(x, 2);
        levels(x, 2, 0, 1);
        x.power(1, false);
        CHECK.equal("play() without a burst", 0, x.play());
        levels(x, 1, -1, 0);
        CHECK.equal("missed()", 5, x.missed());
    }

    /** "or one": it waits, and the others go down. */
    private static void oneInTheDoor() {
        SharedUplink x = asking(0, 1, 2);
        Scene.play(x, 2);
        CHECK.equal("play() with one burst", 1, x.play());
        levels(x, 1, -1, 0);
        state(x, 1, 2, -1);
    }

    /** "that it stays asking with level 0 otherwise": it was not heard; the others go down. */
    private static void oneInALostDoor() {
        SharedUplink x = asking(0, 1, 2);
        Scene.play(x, 2);
        x.lose(0, 0);
        CHECK.equal("play() with the door lost", 0, x.play());
        levels(x, 1, 0, 0);
        state(x, 1, 1, 0);
    }

    /** "two or more": just two, whose coins are 1 and 0, and just two, whose coins are 0. */
    private static void twoInTheDoor() {
        SharedUplink x = asking(0, 1);
        CHECK.equal("play() with two bursts", 0, x.play());
        levels(x, 1, 0);
        x = asking(1, 2);
        CHECK.equal("play() with two bursts", 0, x.play());
        levels(x, -1, 0, 0);
        CHECK.equal("missed()", 2, x.missed());
    }

    /** "all other asking terminals with levels above 0 go up by 1": from 1 over 2 to 3. */
    private static void aLevelOfThree() {
        SharedUplink x = asking(0, 1, 2, 3, 4);
        x.play();
        levels(x, 1, 0, 0, 1, 1);
        x.play();
        levels(x, 2, 0, 1, 2, 2);
        askAnew(x, 2);
        x.play();
        levels(x, 3, 1, 1, 3, 3);
        CHECK.equal("missed()", 5 + 2 + 2, x.missed());
        x.play();
        levels(x, 2, 0, 0, 2, 2);
        CHECK.equal("missed()", 9, x.missed());
    }

    /** "each asking terminal with level 0 sends one in the door": one of level 1 does not. */
    private static void aLevelAboveNoughtIsSilent() {
        SharedUplink x = asking(0, 1);
        x.play();
        levels(x, 1, 0);
        CHECK.equal("play() with one burst", 1, x.play());
        CHECK.equal("heard in the door", 1, x.heard(0, 0));
        levels(x, 0, -1);
        CHECK.equal("play() with one burst", 1, x.play());
        CHECK.equal("heard in the door", 0, x.heard(0, 0));
    }

    /** Off, waiting and steady ones have no level that a meeting could move. */
    private static void levelsOfAskingOnesAlone() {
        SharedUplink x = Scene.steady(0);
        x.power(1, true);
        x.play();
        state(x, 1, 2, -1);
        x.power(2, true);
        x.power(3, true);
        x.play();
        state(x, 0, 3, -1);
        state(x, 1, 2, -1);
        state(x, 4, 0, -1);
        CHECK.equal("missed()", 2, x.missed());
    }

    private static int coin(int k, int t) {
        return (37 * k + 101 * t + 11) / 8 % 2;
    }

    /** Written out: 11, 112, 213, 314 and 415 have 1, 0, 0, 1 and 1 as their bit 3. */
    private static void theCoinsOfTheFirstSuperframe() {
        SharedUplink x = asking(0, 1, 2, 3, 4);
        x.play();
        levels(x, 1, 0, 0, 1, 1);
    }

    private static void meetIn(int k) {
        SharedUplink x = new SharedUplink();
        Scene.play(x, k);
        for (int t = 0; t < 5; t++) {
            x.power(t, true);
        }
        CHECK.equal("play() with five bursts", 0, x.play());
        levels(x, coin(k, 0), coin(k, 1), coin(k, 2), coin(k, 3), coin(k, 4));
    }

    private static void theCoinsOfEverySuperframe() {
        for (int k = 0; k < 499; k++) {
            meetIn(k);
        }
    }

    /** 18474, 18575, 18676, 18777 and 18878 have 1, 1, 0, 1 and 1 as their bit 3. */
    private static void theCoinsOfTheLastSuperframe() {
        meetIn(499);
        SharedUplink x = new SharedUplink();
        Scene.play(x, 499);
        for (int t = 0; t < 5; t++) {
            x.power(t, true);
        }
        x.play();
        levels(x, 1, 1, 0, 1, 1);
    }
}
