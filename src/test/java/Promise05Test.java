/** Promise 5, plan: each boundary that the document names, by its sentence. */
public final class Promise05Test {
    private static final int MIN = Integer.MIN_VALUE;
    private static final int MAX = Integer.MAX_VALUE;
    private static final Due due = new Due("Promise 5, plan");

    public static void main(String[] args) {
        howMany();
        threadOutOfRange();
        anotherAction();
        operandOfUse();
        othersAreAnyInt();
        fullAtThree();
        fullChangesNothing();
        wrongAndFull();
        due.end();
    }

    /** A first call with this operand, and what it adds: a second call counts it or does not. */
    private static void takes(int action, int a, boolean right) {
        ClassStarter x = new ClassStarter();
        String call = "plan(0, " + action + ", " + a + ")";
        due.is(call, x.plan(0, action, a), right ? 1 : -1);
        due.is("the plan is empty", x.result(0), right ? -1 : 0);
        due.is("the action behind " + call, x.plan(0, 5, 0), right ? 2 : 1);
    }

    private static void howMany() {
        due.by("Adds an action 0, 5 or 6 to thread t's PLAN: how many it has.");
        int[] actions = {6, 0, 5};
        ClassStarter x = new ClassStarter();
        for (int k = 0; k < 3; k++) {
            for (int t = 0; t <= 2; t++) {
                due.is("thread " + t + ": action " + k, x.plan(t, actions[(k + t) % 3], 0), k + 1);
            }
        }
    }

    private static void threadOutOfRange() {
        due.by("t out of 0 .. 2");
        ClassStarter x = new ClassStarter();
        int[] wrong = {MIN, -1, 3, 4, MAX};
        for (int t : wrong) {
            due.is("plan(" + t + ", 5, 0)", x.plan(t, 5, 0), -1);
        }
        for (int t = 0; t <= 2; t++) {
            due.is("plan(" + t + ", 5, 0)", x.plan(t, 5, 0), 1);
        }
    }

    private static void anotherAction() {
        due.by("another action .. REFUSED.");
        int[] wrong = {MIN, -1, 1, 2, 3, 4, 7, MAX};
        for (int action : wrong) {
            takes(action, 0, false);
        }
        takes(0, 0, true);
        takes(5, 0, true);
        takes(6, 0, true);
    }

    private static void operandOfUse() {
        due.by("or an operand out of range: REFUSED.");
        int[] wrong = {MIN, -1, 8, 9, MAX};
        for (int a : wrong) {
            takes(0, a, false);
        }
        for (int a = 0; a <= 7; a++) {
            takes(0, a, true);
        }
    }

    private static void othersAreAnyInt() {
        due.by("an operand out of range (.. others any int)");
        int[] numbers = {MIN, -1, 0, 7, 8, 9, 10, MAX};
        for (int a : numbers) {
            takes(5, a, true);
            takes(6, a, true);
        }
    }

    private static ClassStarter threeActions(int t) {
        ClassStarter x = new ClassStarter();
        for (int k = 1; k <= 3; k++) {
            due.is("action " + k, x.plan(t, 5, k), k);
        }
        return x;
    }

    private static void fullAtThree() {
        due.by("3 there: FULL.");
        for (int t = 0; t <= 2; t++) {
            ClassStarter x = threeActions(t);
            due.is("a fourth: use", x.plan(t, 0, 0), -2);
            due.is("a fourth: log", x.plan(t, 5, 4), -2);
            due.is("a fourth: guard", x.plan(t, 6, 0), -2);
            due.is("another thread has room", x.plan((t + 1) % 3, 5, 0), 1);
        }
    }

    private static void fullChangesNothing() {
        due.by("3 there: FULL.");
        for (int t = 0; t <= 2; t++) {
            ClassStarter x = threeActions(t);
            x.plan(t, 5, 4);
            x.plan(t, 0, 7);
            for (int k = 0; k < 3; k++) {
                due.is("step", x.step(t), 1);
                due.is("logged(" + k + ")", x.logged(k), k + 1);
            }
            due.is("ended without fault", x.result(t), 0);
            due.is("the others are empty", x.result((t + 1) % 3), 0);
        }
    }

    /** The document tells REFUSED first, then FULL. */
    private static void wrongAndFull() {
        due.by("REFUSED. 3 there: FULL.");
        ClassStarter x = threeActions(0);
        due.is("use of 8", x.plan(0, 0, 8), -1);
        due.is("use of -1", x.plan(0, 0, -1), -1);
        due.is("action 1", x.plan(0, 1, 0), -1);
        due.is("action 7", x.plan(0, 7, 0), -1);
    }
}
