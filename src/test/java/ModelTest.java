import java.util.ArrayList;
import java.util.List;
import java.util.Random;

/**
 * All promises together: long runs of calls, each answered as the model answers it. A run is
 * played again up to several of its calls, and then all is asked that there are calls left for.
 */
public final class ModelTest {
    private static final Check CHECK = new Check("ModelTest");
    private static final int RUNS = 500;
    private static final int CALLS = 512;
    private static final int STOPS = 12;

    private final int seed;
    private final Random random;
    // how a run is weighted, each 0 .. 3
    private final int drifts;
    private final int losses;
    private final int switches;
    private final int datagrams;
    private final List<Call> calls = new ArrayList<>();

    private ModelTest(int seed) {
        this.seed = seed;
        random = new Random(seed);
        drifts = seed % 4;
        losses = seed / 4 % 4;
        switches = seed / 16 % 4;
        datagrams = seed / 64 % 4;
    }

    public static void main(String[] args) {
        for (int seed = 0; seed < RUNS; seed++) {
            new ModelTest(seed).run();
        }
        CHECK.end();
    }

    private void run() {
        if (seed % 50 == 49) {
            playToTheEnd();
        } else if (seed % 5 == 4) {
            flood();
        } else {
            mix();
        }
        for (int i = 0; i < STOPS; i++) {
            playUpTo(1 + random.nextInt(calls.size()));
        }
        playUpTo(calls.size());
    }

    private void playUpTo(int count) {
        SharedUplink program = new SharedUplink();
        Model model = new Model();
        for (int i = 0; i < count; i++) {
            compare(program, model, calls.get(i), i + 1);
        }
        int first = random.nextInt(Call.QUESTIONS);
        for (int i = 0; i < Math.min(CALLS - count, Call.QUESTIONS); i++) {
            Call question = Call.question((first + i) % Call.QUESTIONS);
            compare(program, model, question, count + i + 1);
        }
    }

    private void compare(SharedUplink program, Model model, Call call, int number) {
        CHECK.equal("run " + seed + ", call " + number + ": " + call,
                call.answerOf(model), call.answerOf(program));
    }

    private void mix() {
        for (int i = 0; i < CALLS; i++) {
            int kind = random.nextInt(100);
            if (kind < 40 || i < 12 && kind < 60) {
                add("play", 0, 0, 0);
            } else if (kind < 42 + 3 * drifts) {
                add("drift", terminal(), number(-4, 4), 0);
            } else if (kind < 54 + 4 * losses) {
                add("lose", number(0, 9), number(0, 2), 0);
            } else if (kind < 70 + 2 * switches) {
                boolean on = i < 40 || random.nextInt(10) < 10 - 2 * switches;
                add("power", terminal(), on ? 1 : 0, 0);
            } else if (kind < 78 + 4 * datagrams) {
                add("send", terminal(), number(1, 6), 0);
            } else if (kind < 93) {
                add("rates", terminal(), number(0, 5), number(1, 4));
            } else {
                ask();
            }
        }
    }

    /** Many cells at many terminals, so that needs, weights and guarantees contend. */
    private void flood() {
        for (int t = 0; t < 5; t++) {
            add("power", t, 1, 0);
            add("play", 0, 0, 0);
        }
        while (calls.size() < CALLS) {
            for (int t = 0; t < 5; t++) {
                add("rates", t, random.nextInt(1 + datagrams), number(1, 4));
                for (int i = random.nextInt(7); i > 0; i--) {
                    add("send", t, number(3, 6), 0);
                }
            }
            for (int i = random.nextInt(1 + losses); i > 0; i--) {
                add("lose", number(0, 9), number(0, 2), 0);
            }
            for (int i = number(1, 4); i > 0; i--) {
                add("play", 0, 0, 0);
            }
        }
    }

    private void playToTheEnd() {
        for (int t = 0; t < 5; t++) {
            add("power", t, 1, 0);
        }
        add("drift", terminal(), number(-1, 1), 0);
        for (int i = 0; i < 502; i++) {
            add("play", 0, 0, 0);
        }
    }

    private void ask() {
        String[] questions = {"terminal", "centre", "plan", "places", "heard", "played", "missed"};
        String question = questions[random.nextInt(questions.length)];
        add(question, number(0, 9), number(0, 6), number(0, 1));
    }

    private void add(String name, int a, int b, int c) {
        if (calls.size() < CALLS) {
            calls.add(new Call(name, a, b, c));
        }
    }

    private int terminal() {
        return number(0, 4);
    }

    /** One of these numbers, or now and then one beside them. */
    private int number(int least, int most) {
        if (random.nextInt(60) == 0) {
            return random.nextBoolean() ? least - 1 : most + 1;
        }
        return least + random.nextInt(most - least + 1);
    }
}
