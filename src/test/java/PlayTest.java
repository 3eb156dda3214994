import java.util.function.Consumer;

/** Promises 7 and 8. */
public final class PlayTest {
    private static final Check CHECK = new Check("PlayTest");

    public static void main(String[] args) {
        itCountsWhatIsHeard();
        playedCountsSuperframes();
        theFiveHundredthIsPlayed();
        theFiveHundredFirstIsRefused();
        refusedPlaysChangeNothing();
        argumentsAreLookedAtBehindTheLastToo();
        otherCallsGoOnBehindTheLast();
        CHECK.end();
    }

    private static void itCountsWhatIsHeard() {
        SharedUplink x = new SharedUplink();
        CHECK.equal("play() without anybody", 0, x.play());
        x.power(0, true);
        int[] due = {1, 0, 9, 9};
        for (int answer : due) {
            CHECK.equal("play() with one", answer, x.play());
        }
        x.power(1, true);
        int[] dueOfTwo = {10, 9, 18, 18};
        for (int answer : dueOfTwo) {
            CHECK.equal("play() with two", answer, x.play());
        }
        x.power(0, false);
        CHECK.equal("play() with one off", 9, x.play());
    }

    private static void playedCountsSuperframes() {
        SharedUplink x = new SharedUplink();
        for (int k = 0; k < 20; k++) {
            CHECK.equal("played()", k, x.played());
            x.power(k % 5, true);
            x.lose(k % 10, k % 3);
            CHECK.equal("played()", k, x.played());
            x.play();
        }
    }

    /** Made by 502 calls: terminal 0 is steady, and the last superframe lets 1 in. */
    private static SharedUplink ended() {
        SharedUplink x = Scene.steady(0);
        Scene.play(x, 496);
        x.power(1, true);
        x.play();
        return x;
    }

    /** "At most 500": the last one is like any other. */
    private static void theFiveHundredthIsPlayed() {
        SharedUplink x = Scene.steady(0);
        Scene.play(x, 496);
        CHECK.equal("played()", 499, x.played());
        x.power(1, true);
        CHECK.equal("the last play()", 10, x.play());
        CHECK.equal("played()", 500, x.played());
        CHECK.equal("waiting", 2, x.terminal(1, 0));
        CHECK.equal("heard in the door", 1, x.heard(0, 0));
    }

    /** "IllegalStateException: 500 were played." */
    private static void theFiveHundredFirstIsRefused() {
        SharedUplink x = ended();
        CHECK.equal("played()", 500, x.played());
        CHECK.refused("play() behind 500", IllegalStateException.class, x::play);
        CHECK.equal("played()", 500, x.played());
        CHECK.refused("play() behind 500, again", IllegalStateException.class, x::play);
        CHECK.equal("played()", 500, x.played());
        SharedUplink idle = new SharedUplink();
        Scene.play(idle, 500);
        CHECK.refused("play() behind 500 without anybody", IllegalStateException.class, idle::play);
    }

    /** A new object for each question, as few of the 512 calls are left. */
    private static void refusedPlaysChangeNothing() {
        for (int i = 0; i < Call.QUESTIONS; i++) {
            Call question = Call.question(i);
            SharedUplink x = ended();
            x.lose(0, 1);
            CHECK.refused("play() behind 500", IllegalStateException.class, x::play);
            CHECK.equal(question + " behind a refused play()",
                    question.answerOf(ended()), question.answerOf(x));
        }
    }

    private static void refusedBehindTheLast(String what, Consumer<SharedUplink> call) {
        SharedUplink x = ended();
        CHECK.refused(what + " behind 500", IllegalArgumentException.class, () -> call.accept(x));
    }

    private static void argumentsAreLookedAtBehindTheLastToo() {
        refusedBehindTheLast("rates(5, 0, 1)", x -> x.rates(5, 0, 1));
        refusedBehindTheLast("power(-1, true)", x -> x.power(-1, true));
        refusedBehindTheLast("drift(0, 5)", x -> x.drift(0, 5));
        refusedBehindTheLast("send(0, 7)", x -> x.send(0, 7));
        refusedBehindTheLast("lose(10, 0)", x -> x.lose(10, 0));
        refusedBehindTheLast("terminal(0, 7)", x -> x.terminal(0, 7));
        refusedBehindTheLast("centre(0, 5)", x -> x.centre(0, 5));
        refusedBehindTheLast("plan(0, 0, 2)", x -> x.plan(0, 0, 2));
        refusedBehindTheLast("places(0, 2)", x -> x.places(0, 2));
        refusedBehindTheLast("heard(0, 3)", x -> x.heard(0, 3));
    }

    private static void otherCallsGoOnBehindTheLast() {
        SharedUplink x = ended();
        CHECK.equal("send(0, 6)", 1, x.send(0, 6));
        CHECK.equal("fresh", 6, x.terminal(0, 3));
        CHECK.equal("power(1, false)", 1, x.power(1, false) ? 1 : 0);
        CHECK.equal("off", 0, x.terminal(1, 0));
        CHECK.accepted("lose(9, 2)", () -> x.lose(9, 2));
        CHECK.accepted("drift(0, 4)", () -> x.drift(0, 4));
        CHECK.accepted("rates(0, 5, 4)", () -> x.rates(0, 5, 4));
        CHECK.equal("missed()", 0, x.missed());
    }
}
