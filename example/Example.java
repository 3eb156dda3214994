/** The example of README.md. */
public final class Example {
    public static void main(String[] args) {
        SharedUplink uplink = new SharedUplink();
        uplink.rates(0, 2, 1);            // terminal 0: two places at least, weight 1
        uplink.power(0, true);            // it asks to be let in
        show("heard in superframe 0", uplink.play());
        show("state, 2 is waiting", uplink.terminal(0, 0));
        uplink.play();
        show("heard in superframe 2", uplink.play());
        show("state, 3 is steady", uplink.terminal(0, 0));
        show("number of the datagram", uplink.send(0, 6));
        show("place in slot 0 of carrier 1", uplink.plan(0, 1, 0));
        uplink.lose(0, 1);                // the cell that is sent there will not be heard
        show("heard in superframe 3", uplink.play());
        show("missed", uplink.missed());
        show("datagrams that arrived", uplink.centre(0, 3));
        uplink.play();
        uplink.play();                    // superframe 5: the cell is sent again
        show("datagrams that arrived", uplink.centre(0, 3));
        try {
            uplink.send(0, 7);
        } catch (IllegalArgumentException e) {
            System.out.println("a datagram of 7 cells is refused");
        }
    }

    private static void show(String what, int answer) {
        System.out.println(what + ": " + answer);
    }
}
