import java.util.Random;

/** All promises together: long runs of calls, each answered as the model answers it. */
public final class ModelTest {
    private static final Check CHECK = new Check("ModelTest");
    private static final int RUNS = 400;
    private static final int CALLS = 512;

    private final Random random;
    // how a run is weighted, each 0 .. 3
    private final int drifts;
    private final int losses;
    private final int switches;
    private final int datagrams;
    private final SharedUplink program = new SharedUplink();
    private final Model model = new Model();
    private String name = "";
    private int calls = 0;

    private ModelTest(int seed) {
        random = new Random(seed);
        drifts = seed % 4;
        losses = seed / 4 % 4;
        switches = seed / 16 % 4;
        datagrams = seed / 64 % 4;
    }

    public static void main(String[] args) {
        for (int seed = 0; seed < RUNS; seed++) {
            new ModelTest(seed).run(seed);
        }
        CHECK.end();
    }

    private void run(int seed) {
        name = "run " + seed;
        if (seed % 50 == 49) {
            playToTheEnd();
        } else if (seed % 5 == 4) {
            flood();
        } else {
            mix();
        }
    }

    private void mix() {
        for (int i = 0; i < CALLS; i++) {
            int kind = random.nextInt(100);
            if (kind < 40 || i < 12 && kind < 60) {
                both("play", 0, 0, 0);
            } else if (kind < 42 + 3 * drifts) {
                both("drift", terminal(), number(-4, 4), 0);
            } else if (kind < 54 + 4 * losses) {
                both("lose", number(0, 9), number(0, 2), 0);
            } else if (kind < 70 + 2 * switches) {
                boolean on = i < 40 || random.nextInt(10) < 10 - 2 * switches;
                both("power", terminal(), on ? 1 : 0, 0);
            } else if (kind < 78 + 4 * datagrams) {
                both("send", terminal(), number(1, 6), 0);
            } else if (kind < 93) {
                both("rates", terminal(), number(0, 5), number(1, 4));
            } else {
                ask();
            }
        }
    }

    /** Many cells at many terminals, so that needs, weights and guarantees contend. */
    private void flood() {
        for (int t = 0; t < 5; t++) {
            both("power", t, 1, 0);
            both("play", 0, 0, 0);
        }
        for (int round = 0; round < 14; round++) {
            for (int t = 0; t < 5; t++) {
                both("rates", t, random.nextInt(1 + datagrams), number(1, 4));
                for (int i = random.nextInt(7); i > 0; i--) {
                    both("send", t, number(3, 6), 0);
                }
            }
            for (int i = number(1, 4); i > 0; i--) {
                both("play", 0, 0, 0);
            }
            for (int i = random.nextInt(1 + losses); i > 0; i--) {
                both("lose", number(0, 9), number(0, 2), 0);
            }
        }
    }

    private void playToTheEnd() {
        for (int t = 0; t < 5; t++) {
            both("power", t, 1, 0);
            both("drift", t, number(-1, 1), 0);
        }
        for (int i = 0; i < 502; i++) {
            both("play", 0, 0, 0);
        }
    }

    private void ask() {
        String[] questions = {"terminal", "centre", "plan", "places", "heard", "played", "missed"};
        String question = questions[random.nextInt(questions.length)];
        both(question, number(0, 9), number(0, 6), number(0, 1));
    }

    private int terminal() {
        return number(0, 4);
    }

    /** One of these numbers, or now and then one beside them. */
    private int number(int least, int most) {
        if (random.nextInt(60) == 0) {
            return random.nextBoolean() ? least - 1 : most + 1;
        }
        return least + random.nextInt(most - least + 1);
    }

    private void both(String call, int a, int b, int c) {
        String want = answer(call, a, b, c, true);
        String got = answer(call, a, b, c, false);
        calls++;
        String place = name + ", call " + calls + ": ";
        CHECK.equal(place + call + "(" + a + ", " + b + ", " + c + ")", want, got);
        compareState(place);
    }

    private String answer(String call, int a, int b, int c, boolean ofModel) {
        try {
            return "" + (ofModel ? ofModel(call, a, b, c) : ofProgram(call, a, b, c));
        } catch (RuntimeException e) {
            return e.getClass().getSimpleName();
        }
    }

    private int ofModel(String call, int a, int b, int c) {
        switch (call) {
            case "rates": model.rates(a, b, c); return 0;
            case "power": return model.power(a, b == 1) ? 1 : 0;
            case "drift": model.drift(a, b); return 0;
            case "send": return model.send(a, b);
            case "lose": model.lose(a, b); return 0;
            case "play": return model.play();
            case "played": return model.played();
            case "terminal": return model.terminal(a, b);
            case "centre": return model.centre(a, b);
            case "plan": return model.plan(a, b, c);
            case "places": return model.places(a, c);
            case "heard": return model.heard(a, b);
            default: return model.missed();
        }
    }

    private int ofProgram(String call, int a, int b, int c) {
        switch (call) {
            case "rates": program.rates(a, b, c); return 0;
            case "power": return program.power(a, b == 1) ? 1 : 0;
            case "drift": program.drift(a, b); return 0;
            case "send": return program.send(a, b);
            case "lose": program.lose(a, b); return 0;
            case "play": return program.play();
            case "played": return program.played();
            case "terminal": return program.terminal(a, b);
            case "centre": return program.centre(a, b);
            case "plan": return program.plan(a, b, c);
            case "places": return program.places(a, c);
            case "heard": return program.heard(a, b);
            default: return program.missed();
        }
    }

    private void compareState(String place) {
        CHECK.equal(place + "missed", model.missed(), program.missed());
        for (int t = 0; t < 5; t++) {
            for (int what = 0; what <= 6; what++) {
                CHECK.equal(place + "terminal", model.terminal(t, what), program.terminal(t, what));
            }
            for (int what = 0; what <= 4; what++) {
                CHECK.equal(place + "centre", model.centre(t, what), program.centre(t, what));
            }
        }
        for (int slot = 0; slot < 10; slot++) {
            for (int carrier = 0; carrier < 3; carrier++) {
                int next = program.plan(slot, carrier, 0);
                int behind = program.plan(slot, carrier, 1);
                CHECK.equal(place + "plan", model.plan(slot, carrier, 0), next);
                CHECK.equal(place + "plan", model.plan(slot, carrier, 1), behind);
                int heard = program.heard(slot, carrier);
                CHECK.equal(place + "heard", model.heard(slot, carrier), heard);
            }
        }
    }
}
