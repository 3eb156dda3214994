/** All that can be asked of an object, as one text. */
final class Snapshot {
    private Snapshot() {
    }

    static String of(SharedUplink x) {
        StringBuilder text = new StringBuilder();
        text.append("played ").append(x.played()).append(" missed ").append(x.missed());
        for (int t = 0; t < 5; t++) {
            text.append("\n  terminal ").append(t).append(':');
            for (int what = 0; what <= 6; what++) {
                text.append(' ').append(x.terminal(t, what));
            }
            text.append(" centre:");
            for (int what = 0; what <= 4; what++) {
                text.append(' ').append(x.centre(t, what));
            }
            text.append(" places: ").append(x.places(t, 0)).append(' ').append(x.places(t, 1));
        }
        text.append("\n  plan ").append(plan(x, 0));
        text.append("\n  then ").append(plan(x, 1));
        text.append("\n  heard ").append(heard(x));
        return text.toString();
    }

    /** The places slot by slot, a letter a carrier: '.' is nobody. */
    static String plan(SharedUplink x, int ahead) {
        StringBuilder text = new StringBuilder();
        for (int slot = 0; slot < 10; slot++) {
            text.append(slot == 0 ? "" : " ");
            for (int carrier = 0; carrier < 3; carrier++) {
                text.append(letter(x.plan(slot, carrier, ahead)));
            }
        }
        return text.toString();
    }

    static String heard(SharedUplink x) {
        StringBuilder text = new StringBuilder();
        for (int slot = 0; slot < 10; slot++) {
            text.append(slot == 0 ? "" : " ");
            for (int carrier = 0; carrier < 3; carrier++) {
                text.append(letter(x.heard(slot, carrier)));
            }
        }
        return text.toString();
    }

    private static String letter(int terminal) {
        return terminal == SharedUplink.NONE ? "." : Integer.toString(terminal);
    }
}
