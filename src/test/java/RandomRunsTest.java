import java.util.Random;

/** Runs of calls from fixed seeds, each answered by the program and by the model alike. */
public final class RandomRunsTest {
    private static final int RUNS = 3000;
    /** The document promises nothing about later calls. */
    private static final int MOST_CALLS = 512;
    private static final int CALLS_OF_A_LOOK = 120;
    private static final Due due = new Due("RandomRunsTest");

    private final Random random;
    private final int seed;
    private final ClassStarter program = new ClassStarter();
    private final Model model = new Model();
    private int calls;

    private RandomRunsTest(int seed) {
        this.seed = seed;
        random = new Random(seed);
    }

    public static void main(String[] args) {
        for (int seed = 0; seed < RUNS; seed++) {
            new RandomRunsTest(seed).run();
        }
        due.end();
    }

    private void run() {
        while (calls < MOST_CALLS) {
            build();
            explore();
            walk();
            if (random.nextInt(3) == 0) {
                build();
                explore();
            }
            look();
            reset();
        }
    }

    private void same(String call, long got, long want) {
        calls++;
        due.is("seed " + seed + ", call " + calls + ": " + call, got, want);
    }

    /** Mostly a number from low to high, now and then one right outside, or far out. */
    private int near(int low, int high) {
        int way = random.nextInt(60);
        if (way == 0) {
            return low - 1;
        }
        if (way == 1) {
            return high + 1;
        }
        if (way == 2) {
            return random.nextBoolean() ? Integer.MIN_VALUE : Integer.MAX_VALUE;
        }
        return low + random.nextInt(high - low + 1);
    }

    private void build() {
        int most = random.nextInt(60);
        for (int k = 0; k < most && calls < MOST_CALLS; k++) {
            switch (random.nextInt(8)) {
                case 0, 1 -> declare();
                case 2 -> inherit();
                case 3, 4, 5 -> act();
                default -> plan();
            }
            if (random.nextInt(4) == 0) {
                ask();
            }
        }
    }

    private int someClass() {
        return near(0, Math.max(0, Math.min(7, model.count(0) - (random.nextInt(6) == 0 ? 0 : 1))));
    }

    private void declare() {
        int superclass = random.nextInt(3) == 0 ? someClass() : -1;
        boolean isInterface = random.nextInt(3) == 0;
        boolean constant = random.nextBoolean();
        int value = near(-2, 9);
        same("declare", program.declare(superclass, isInterface, constant, value),
                model.declare(superclass, isInterface, constant, value));
    }

    private void inherit() {
        for (int tries = 0; tries < 3 && calls < MOST_CALLS; tries++) {
            int c = someClass();
            int i = someClass();
            boolean defaulted = random.nextInt(3) != 0;
            same("inherit", program.inherit(c, i, defaulted), model.inherit(c, i, defaulted));
        }
    }

    private void act() {
        int c = someClass();
        int action = random.nextInt(3) == 0 ? 0 : near(0, 6);
        int a = action == 0 ? someClass() : action == 2 ? near(0, 1) : near(0, 9);
        int b = action == 2 ? someClass() : near(0, 9);
        same("act", program.act(c, action, a, b), model.act(c, action, a, b));
    }

    private void plan() {
        int t = near(0, 2);
        int way = random.nextInt(12);
        int action = way == 0 ? near(0, 6) : way < 8 ? 0 : way < 9 ? 5 : 6;
        int a = action == 0 ? someClass() : near(0, 9);
        same("plan", program.plan(t, action, a), model.plan(t, action, a));
    }

    private void explore() {
        if (calls < MOST_CALLS) {
            same("explore()", program.explore(), model.explore());
        }
        for (int k = 0; k < 12 && calls < MOST_CALLS; k++) {
            int asked = random.nextInt(4) == 0 ? near(0, 12) : k;
            same("outcome(" + asked + ")", program.outcome(asked), model.outcome(asked));
        }
        for (int what = 3; what <= 4 && calls < MOST_CALLS; what++) {
            same("count(" + what + ")", program.count(what), model.count(what));
        }
    }

    /** Some threads go ahead of the others, so that deep stacks and long waits come about. */
    private void walk() {
        int most = random.nextInt(100);
        int favourite = random.nextInt(3);
        for (int k = 0; k < most && calls < MOST_CALLS; k++) {
            int t = random.nextInt(3) == 0 ? near(0, 2) : favourite;
            if (random.nextInt(10) == 0) {
                favourite = random.nextInt(3);
            }
            same("step(" + t + ")", program.step(t), model.step(t));
            ask();
        }
        look();
    }

    private void reset() {
        if (calls < MOST_CALLS) {
            same("reset()", program.reset(), model.reset());
        }
        ask();
    }

    /** One question that changes nothing. */
    private void ask() {
        if (calls >= MOST_CALLS) {
            return;
        }
        int c = near(0, 7);
        int k = near(0, 1);
        int t = near(0, 2);
        int what = near(0, 5);
        int entry = near(0, Math.max(0, model.count(2) - 1));
        switch (random.nextInt(8)) {
            case 0 -> same("state(" + c + ")", program.state(c), model.state(c));
            case 1 -> same("statics(" + c + ", " + k + ")", program.statics(c, k), model.statics(c, k));
            case 2 -> same("result(" + t + ")", program.result(t), model.result(t));
            case 3 -> same("inside(" + t + ")", program.inside(t), model.inside(t));
            case 4 -> same("waitsFor(" + t + ")", program.waitsFor(t), model.waitsFor(t));
            case 5 -> same("logged(" + entry + ")", program.logged(entry), model.logged(entry));
            case 6 -> same("outcome(" + entry + ")", program.outcome(entry), model.outcome(entry));
            default -> same("count(" + what + ")", program.count(what), model.count(what));
        }
    }

    /** All questions that change nothing, if there are calls enough left for them. */
    private void look() {
        if (calls + CALLS_OF_A_LOOK > MOST_CALLS) {
            return;
        }
        for (int c = 0; c <= 8; c++) {
            same("state(" + c + ")", program.state(c), model.state(c));
            same("statics(" + c + ", 0)", program.statics(c, 0), model.statics(c, 0));
            same("statics(" + c + ", 1)", program.statics(c, 1), model.statics(c, 1));
        }
        for (int t = 0; t <= 2; t++) {
            same("result(" + t + ")", program.result(t), model.result(t));
            same("inside(" + t + ")", program.inside(t), model.inside(t));
            same("waitsFor(" + t + ")", program.waitsFor(t), model.waitsFor(t));
        }
        for (int k = 0; k <= model.count(2); k++) {
            same("logged(" + k + ")", program.logged(k), model.logged(k));
        }
        for (int k = 0; k <= 12; k++) {
            same("outcome(" + k + ")", program.outcome(k), model.outcome(k));
        }
        for (int what = 0; what <= 5; what++) {
            same("count(" + what + ")", program.count(what), model.count(what));
        }
    }
}
