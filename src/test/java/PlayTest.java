/** Promises 7 and 8. */
public final class PlayTest {
    private static final Check CHECK = new Check("PlayTest");

    public static void main(String[] args) {
        itCountsWhatIsHeard();
        playedCountsSuperframes();
        fiveHundredAtMost();
        CHECK.end();
    }

    private static void itCountsWhatIsHeard() {
        SharedUplink x = new SharedUplink();
        CHECK.equal("play() without anybody", 0, x.play());
        x.power(0, true);
        int[] due = {1, 0, 9, 9};
        for (int answer : due) {
            CHECK.equal("play() with one", answer, x.play());
        }
        x.power(1, true);
        int[] dueOfTwo = {10, 9, 18, 18};
        for (int answer : dueOfTwo) {
            CHECK.equal("play() with two", answer, x.play());
        }
        x.power(0, false);
        CHECK.equal("play() with one off", 9, x.play());
    }

    private static void playedCountsSuperframes() {
        SharedUplink x = new SharedUplink();
        for (int k = 0; k < 20; k++) {
            CHECK.equal("played()", k, x.played());
            x.power(k % 5, true);
            x.lose(k % 10, k % 3);
            CHECK.equal("played()", k, x.played());
            x.play();
        }
    }

    private static SharedUplink withAllPlayed() {
        SharedUplink x = Scene.steady(0);
        x.power(1, true);
        Scene.play(x, 497);
        return x;
    }

    private static void fiveHundredAtMost() {
        SharedUplink x = Scene.steady(0);
        Scene.play(x, 496);
        CHECK.equal("the last play()", 9, x.play());
        CHECK.equal("played()", 500, x.played());
        CHECK.refused("play() behind 500", IllegalStateException.class, x::play);
        CHECK.equal("played()", 500, x.played());
        CHECK.equal("places in the plan of superframe 501", 9, x.places(0, 1));
        CHECK.refused("play() behind 500", IllegalStateException.class,
                PlayTest::withAllPlayed, SharedUplink::play);
    }
}
