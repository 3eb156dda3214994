/** Objects in states that several tests begin with. */
final class Scene {
    private Scene() {
    }

    /** Lets these terminals in one after the other: all are steady, and n + 2 were played. */
    static SharedUplink steady(int... terminals) {
        SharedUplink x = new SharedUplink();
        for (int t : terminals) {
            x.power(t, true);
            x.play();
        }
        play(x, 2);
        return x;
    }

    /** All five are steady and superframe 7 is next: 0 to 4 have 5, 6, 5, 5 and 5 places there. */
    static SharedUplink five() {
        return steady(0, 1, 2, 3, 4);
    }

    static void play(SharedUplink x, int times) {
        for (int i = 0; i < times; i++) {
            x.play();
        }
    }

    /** Plays with the whole of carrier 1 lost: that is where a terminal that is alone sends. */
    static void playUnheard(SharedUplink x, int times) {
        for (int i = 0; i < times; i++) {
            loseSlots(x, 0, 9);
            x.play();
        }
    }

    /** Plays with the first place of a terminal that is alone lost. */
    static void playFirstLost(SharedUplink x) {
        loseSlots(x, 0, 0);
        x.play();
    }

    /** Loses these slots of carrier 1 in the next superframe. */
    static void loseSlots(SharedUplink x, int first, int last) {
        for (int slot = first; slot <= last; slot++) {
            x.lose(slot, 1);
        }
    }

    /** Makes datagrams of so many cells in all, as large ones as there can be. */
    static void sendCells(SharedUplink x, int t, int cells) {
        for (int left = cells; left > 0; left -= 6) {
            x.send(t, Math.min(left, 6));
        }
    }

    /** One of every kind of terminal, so that a hidden change would come to light later on. */
    static SharedUplink busy() {
        SharedUplink x = steady(0, 1, 4);
        x.drift(4, 1);
        x.rates(1, 3, 2);
        for (int i = 0; i < 3; i++) {
            x.send(0, 6);
            x.send(1, 5);
            x.send(4, 4);
        }
        x.power(2, true);
        x.power(3, true);
        x.play();
        x.send(3, 2);
        return x;
    }

    /** Five terminals that need all they can get, so that every guarantee and weight counts. */
    static SharedUplink crowded() {
        SharedUplink x = five();
        x.rates(1, 2, 3);
        x.rates(2, 1, 2);
        for (int t = 0; t < 5; t++) {
            sendCells(x, t, 24 - t);
        }
        return x;
    }

    /** Slots and carriers, one or both of which there are not. */
    static int[][] wrongSlots() {
        return new int[][] {
            {-1, 0}, {10, 0}, {-1, 2}, {10, 2}, {0, -1}, {0, 3}, {9, -1}, {9, 3},
            // behind each other in a row of all slots these would be other ones
            {1, -1}, {1, -2}, {-1, 3}, {-1, 5}, {0, 4}, {8, 3}, {10, -1}, {10, -3}, {3, -9},
            {Integer.MIN_VALUE, 0}, {Integer.MAX_VALUE, 0}, {Integer.MIN_VALUE, 1},
            {0, Integer.MIN_VALUE}, {0, Integer.MAX_VALUE}, {Integer.MAX_VALUE, 3},
            // three times this is 2 as an int
            {1431655766, 0}, {1431655766, 1},
        };
    }
}
