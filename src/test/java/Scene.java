/** Objects in states that several tests begin with. */
final class Scene {
    private Scene() {
    }

    /** Lets these terminals in one after the other: all are steady, and n + 2 were played. */
    static SharedUplink steady(int... terminals) {
        SharedUplink x = new SharedUplink();
        for (int t : terminals) {
            x.power(t, true);
            x.play();
        }
        play(x, 2);
        return x;
    }

    static void play(SharedUplink x, int times) {
        for (int i = 0; i < times; i++) {
            x.play();
        }
    }

    /** Plays with the whole of carrier 1 lost: that is where a terminal that is alone sends. */
    static void playUnheard(SharedUplink x, int times) {
        for (int i = 0; i < times; i++) {
            for (int slot = 0; slot < 10; slot++) {
                x.lose(slot, 1);
            }
            x.play();
        }
    }

    /** Plays with the first place of a terminal that is alone lost. */
    static void playFirstLost(SharedUplink x) {
        x.lose(0, 1);
        x.play();
    }

    /** One of every kind of terminal, so that a hidden change would come to light later on. */
    static SharedUplink busy() {
        SharedUplink x = steady(0, 1, 4);
        x.drift(4, 1);
        x.rates(1, 3, 2);
        for (int i = 0; i < 3; i++) {
            x.send(0, 6);
            x.send(1, 5);
            x.send(4, 4);
        }
        x.power(2, true);
        x.power(3, true);
        x.play();
        x.send(3, 2);
        return x;
    }

    /** Slots and carriers, one or both of which there are not. */
    static int[][] wrongSlots() {
        return new int[][] {
            {-1, 0}, {10, 0}, {0, -1}, {0, 3}, {1, 3}, {3, -1}, {-1, 3}, {10, -1},
            {Integer.MIN_VALUE, 0}, {Integer.MAX_VALUE, 0},
            {0, Integer.MIN_VALUE}, {0, Integer.MAX_VALUE},
        };
    }
}
