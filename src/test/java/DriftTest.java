/** Promise 4, and how offsets are measured, told and taken back. */
public final class DriftTest {
    private static final Check CHECK = new Check("DriftTest");

    public static void main(String[] args) {
        everyOffsetDrifts();
        aDriftOfOneIsFollowed();
        theDoorMeasuresToo();
        wrongArgumentsAreRefused();
        CHECK.end();
    }

    private static void everyOffsetDrifts() {
        SharedUplink x = new SharedUplink();
        x.drift(0, 4);
        x.drift(1, -4);
        x.drift(2, 1);
        CHECK.equal("offset before a superframe", 0, x.terminal(0, 2));
        Scene.play(x, 3);
        int[] due = {12, -12, 3, 0, 0};
        for (int t = 0; t < 5; t++) {
            CHECK.equal("offset of " + t, due[t], x.terminal(t, 2));
        }
        x.drift(0, -3);
        x.drift(1, 0);
        x.play();
        CHECK.equal("offset with another drift", 9, x.terminal(0, 2));
        CHECK.equal("offset without drift", -12, x.terminal(1, 2));
    }

    /** Told are 1 (door), nothing, 2, 3 - 2, 2 - 1, 2 - 1, ..: each comes two superframes later. */
    private static void aDriftOfOneIsFollowed() {
        for (int sign = -1; sign <= 1; sign += 2) {
            SharedUplink x = new SharedUplink();
            x.drift(0, sign);
            x.power(0, true);
            int[] due = {1, 2, 2, 3, 2, 2, 2, 2};
            for (int k = 0; k < due.length; k++) {
                x.play();
                CHECK.equal("offset in " + k, sign * due[k], x.terminal(0, 2));
            }
        }
    }

    private static void theDoorMeasuresToo() {
        SharedUplink x = new SharedUplink();
        x.drift(3, 4);
        Scene.play(x, 5);
        x.drift(3, 0);
        x.power(3, true);
        CHECK.equal("play() with an offset of 20 in the door", 1, x.play());
        x.play();
        CHECK.equal("offset while waiting", 20, x.terminal(3, 2));
        CHECK.equal("play() when it is steady", 9, x.play());
        CHECK.equal("offset when it is steady", 0, x.terminal(3, 2));
    }

    private static void wrongArgumentsAreRefused() {
        int[][] wrong = {
            {-1, 0}, {5, 0}, {Integer.MIN_VALUE, 1}, {Integer.MAX_VALUE, 1},
            {0, -5}, {0, 5}, {4, -5}, {4, 5}, {4, Integer.MIN_VALUE}, {4, Integer.MAX_VALUE},
        };
        for (int[] w : wrong) {
            CHECK.refusedAsArgument("drift(" + w[0] + ", " + w[1] + ")", x -> x.drift(w[0], w[1]));
        }
    }
}
