/** One call of the face, so that a run of calls can be kept, and played again. */
final class Call {
    /** How many questions there are: all that can be asked of an object. */
    static final int QUESTIONS = 2 + 5 * 7 + 5 * 5 + 5 * 2 + 30 * 2 + 30;

    private final String name;
    private final int a;
    private final int b;
    private final int c;

    Call(String name, int a, int b, int c) {
        this.name = name;
        this.a = a;
        this.b = b;
        this.c = c;
    }

    static Call question(int number) {
        int n = number;
        if (n < 2) {
            return new Call(n == 0 ? "played" : "missed", 0, 0, 0);
        }
        n -= 2;
        if (n < 35) {
            return new Call("terminal", n / 7, n % 7, 0);
        }
        n -= 35;
        if (n < 25) {
            return new Call("centre", n / 5, n % 5, 0);
        }
        n -= 25;
        if (n < 10) {
            return new Call("places", n / 2, n % 2, 0);
        }
        n -= 10;
        if (n < 60) {
            return new Call("plan", n / 6, n / 2 % 3, n % 2);
        }
        n -= 60;
        return new Call("heard", n / 3, n % 3, 0);
    }

    String answerOf(SharedUplink x) {
        try {
            return "" + numberOf(x);
        } catch (RuntimeException e) {
            return e.getClass().getSimpleName();
        }
    }

    String answerOf(Model x) {
        try {
            return "" + numberOf(x);
        } catch (RuntimeException e) {
            return e.getClass().getSimpleName();
        }
    }

    private int numberOf(SharedUplink x) {
        switch (name) {
            case "rates": x.rates(a, b, c); return 0;
            case "power": return x.power(a, b == 1) ? 1 : 0;
            case "drift": x.drift(a, b); return 0;
            case "send": return x.send(a, b);
            case "lose": x.lose(a, b); return 0;
            case "play": return x.play();
            case "played": return x.played();
            case "terminal": return x.terminal(a, b);
            case "centre": return x.centre(a, b);
            case "plan": return x.plan(a, b, c);
            case "places": return x.places(a, b);
            case "heard": return x.heard(a, b);
            default: return x.missed();
        }
    }

    private int numberOf(Model x) {
        switch (name) {
            case "rates": x.rates(a, b, c); return 0;
            case "power": return x.power(a, b == 1) ? 1 : 0;
            case "drift": x.drift(a, b); return 0;
            case "send": return x.send(a, b);
            case "lose": x.lose(a, b); return 0;
            case "play": return x.play();
            case "played": return x.played();
            case "terminal": return x.terminal(a, b);
            case "centre": return x.centre(a, b);
            case "plan": return x.plan(a, b, c);
            case "places": return x.places(a, b);
            case "heard": return x.heard(a, b);
            default: return x.missed();
        }
    }

    @Override
    public String toString() {
        return name + "(" + a + ", " + b + ", " + c + ")";
    }
}
