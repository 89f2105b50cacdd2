/** Promise 6, step: each boundary that the document names, by its sentence. */
public final class Promise06Test {
    private static final int MIN = Integer.MIN_VALUE;
    private static final int MAX = Integer.MAX_VALUE;
    private static final Due due = new Due("Promise 6, step");

    public static void main(String[] args) {
        oneStep();
        waits();
        waitsAlsoWhenStuck();
        waitingChangesNothing();
        outOfRange();
        endedByItsPlan();
        endedFromTheStart();
        endedByAFault();
        refusedBeginsNothing();
        begunByAStep();
        begunWhileOneWaits();
        due.end();
    }

    /** Each thread uses the one class, which logs once. */
    private static ClassStarter oneClassForAll() {
        ClassStarter x = new ClassStarter();
        x.declare(-1, false, false, 0);
        x.act(0, 5, 1, 0);
        for (int t = 0; t <= 2; t++) {
            x.plan(t, 0, 0);
        }
        return x;
    }

    private static void oneStep() {
        due.by("One STEP of thread t: 1.");
        for (int t = 0; t <= 2; t++) {
            ClassStarter x = oneClassForAll();
            due.steps(x, t, 1);
            due.is("steps", x.count(1), 1);
            due.is("the class is begun", x.state(0), 4 + t);
            due.is("no more than that", x.count(2), 0);
            due.steps(x, t, 1);
            due.is("logged", x.count(2), 1);
            due.is("no more than that", x.state(0), 4 + t);
            due.steps(x, t, 1);
            due.is("done", x.state(0), 1);
            due.is("steps", x.count(1), 3);
        }
    }

    private static void waits() {
        due.by("It WAITS: 0.");
        ClassStarter x = oneClassForAll();
        due.steps(x, 1, 1);
        due.is("step(0)", x.step(0), 0);
        due.is("step(2)", x.step(2), 0);
        due.is("step(0) again", x.step(0), 0);
        due.steps(x, 1, 2);
        due.steps(x, 0, 1);
        due.steps(x, 2, 1);
        due.is("ended: now it is refused", x.step(0), -1);
    }

    private static void waitsAlsoWhenStuck() {
        due.by("It WAITS: 0.");
        ClassStarter x = new ClassStarter();
        for (int c = 0; c <= 1; c++) {
            x.declare(-1, false, false, 0);
            x.act(c, 0, 1 - c, 0);
            x.plan(c, 0, c);
        }
        due.steps(x, 0, 1);
        due.steps(x, 1, 1);
        due.is("stuck", x.result(0), 50);
        due.is("step(0)", x.step(0), 0);
        due.is("step(1)", x.step(1), 0);
        due.is("the one that ended", x.step(2), -1);
    }

    private static void waitingChangesNothing() {
        due.by("the thread WAITS: it makes no STEP");
        ClassStarter x = oneClassForAll();
        due.steps(x, 0, 1);
        String before = Picture.of(x);
        due.is("step(1)", x.step(1), 0);
        due.is("step(2)", x.step(2), 0);
        due.same("after waiting", Picture.of(x), before);
        due.is("reset() counts no waiting", x.reset(), 1);
    }

    private static void outOfRange() {
        due.by("t out of range .. REFUSED.");
        ClassStarter x = oneClassForAll();
        int[] wrong = {MIN, -1, 3, 4, MAX};
        for (int t : wrong) {
            due.is("step(" + t + ") before", x.step(t), -1);
        }
        due.is("steps", x.count(1), 0);
        due.steps(x, 2, 1);
        String before = Picture.of(x);
        for (int t : wrong) {
            due.is("step(" + t + ") begun", x.step(t), -1);
        }
        due.same("after refused steps", Picture.of(x), before);
    }

    private static void endedByItsPlan() {
        due.by("it has ENDED: REFUSED.");
        ClassStarter x = new ClassStarter();
        x.plan(0, 5, 1);
        x.plan(1, 5, 2);
        due.steps(x, 0, 1);
        String before = Picture.of(x);
        due.is("step(0)", x.step(0), -1);
        due.is("step(0) again", x.step(0), -1);
        due.same("after refused steps", Picture.of(x), before);
        due.steps(x, 1, 1);
        due.is("step(1)", x.step(1), -1);
    }

    private static void endedFromTheStart() {
        due.by("with an empty PLAN from the start");
        ClassStarter x = new ClassStarter();
        for (int t = 0; t <= 2; t++) {
            due.is("step(" + t + ")", x.step(t), -1);
        }
        x.plan(1, 5, 0);
        due.is("step(0)", x.step(0), -1);
        due.is("step(2)", x.step(2), -1);
        due.steps(x, 1, 1);
    }

    /** More of the plan stands behind the fault, and is not reached. */
    private static void endedByAFault() {
        due.by("it has ENDED: REFUSED.");
        int[][] actionsAndResults = {{3, 4, 35, 3}, {4, 4, 15, 3}, {0, 7, 21, 3}};
        for (int[] row : actionsAndResults) {
            ClassStarter x = new ClassStarter();
            x.declare(-1, false, false, 0);
            x.act(0, row[0], row[1], 0);
            for (int t = 0; t <= 1; t++) {
                x.plan(t, 0, 0);
                x.plan(t, 5, 1);
            }
            due.steps(x, 0, row[3]);
            due.is("result(0)", x.result(0), row[2]);
            due.is("step(0)", x.step(0), -1);
            due.steps(x, 1, 1);
            due.is("result(1)", x.result(1), 22);
            due.is("step(1)", x.step(1), -1);
            due.is("nothing logged", x.count(2), 0);
        }
    }

    private static void refusedBeginsNothing() {
        due.by("All is begun from then on, unless REFUSED.");
        ClassStarter x = new ClassStarter();
        x.plan(1, 5, 0);
        int[] refused = {MIN, -1, 0, 2, 3, MAX};
        for (int t : refused) {
            due.is("step(" + t + ")", x.step(t), -1);
            due.is("begun", x.count(5), 0);
        }
        due.is("declare", x.declare(-1, false, false, 0), 0);
        due.is("plan", x.plan(0, 5, 0), 1);
    }

    private static void begunByAStep() {
        due.by("All is begun from then on");
        for (int t = 0; t <= 2; t++) {
            ClassStarter x = new ClassStarter();
            x.plan(t, 6, 0);
            due.steps(x, t, 1);
            due.is("begun", x.count(5), 1);
            due.is("declare", x.declare(-1, false, false, 0), -1);
            due.is("refused now", x.step(t), -1);
            due.is("begun yet", x.count(5), 1);
        }
    }

    private static void begunWhileOneWaits() {
        due.by("All is begun from then on");
        ClassStarter x = oneClassForAll();
        due.steps(x, 0, 1);
        due.is("step(1)", x.step(1), 0);
        due.is("begun", x.count(5), 1);
        due.is("plan", x.plan(1, 5, 0), -1);
        x.reset();
        due.is("not begun", x.count(5), 0);
    }
}
