/** Promise 6, step, by the rules of a STEP for ordinary programs; with state and statics on the way. */
public final class SteppingTest {
    private static final Due due = new Due("SteppingTest");

    public static void main(String[] args) {
        stepsOfAPlainUse();
        partsInOrder();
        interfaceAddedBehindActions();
        doneAndOwnClassesAreMadeAtOnce();
        copies();
        copyCopiesWhenTheClassIsDone();
        guardAndLogArePlainSteps();
        waitingMakesNoStep();
        stuckIsLeftByNoStep();
        due.end();
    }

    private static void stepsOfAPlainUse() {
        ClassStarter x = new ClassStarter();
        x.declare(-1, false, false, 0);
        x.plan(2, 0, 0);
        due.steps(x, 2, 1);
        due.is("busy", x.state(0), 6);
        due.is("inside", x.inside(2), 0);
        due.is("not ended", x.result(2), -1);
        due.steps(x, 2, 1);
        due.is("done", x.state(0), 1);
        due.is("out of it", x.inside(2), -1);
        due.is("ended", x.result(2), 0);
    }

    private static void partsInOrder() {
        ClassStarter x = new ClassStarter();
        for (int c = 0; c < 3; c++) {
            x.declare(-1, c > 0, false, 0);
            x.act(c, 5, c, 0);
        }
        x.declare(0, false, false, 0);
        x.inherit(3, 2, true);
        x.inherit(3, 1, true);
        x.act(3, 5, 30, 0);
        x.act(3, 5, 31, 0);
        x.plan(0, 0, 3);
        due.steps(x, 0, 13);
        due.is("ended", x.result(0), 0);
        long[] log = {0, 2, 1, 30, 31};
        for (int k = 0; k < log.length; k++) {
            due.is("logged(" + k + ")", x.logged(k), log[k]);
        }
    }

    private static void interfaceAddedBehindActions() {
        ClassStarter x = new ClassStarter();
        x.declare(-1, true, false, 0);
        x.act(0, 5, 100, 0);
        x.declare(-1, true, true, 8);
        x.act(1, 5, 101, 0);
        x.declare(-1, false, false, 0);
        x.act(2, 5, 1, 5);
        x.act(2, 2, 1, 1);
        x.act(2, 6, 0, 0);
        x.act(2, 3, 9, 0);
        x.act(2, 5, 2, 0);
        x.inherit(2, 1, true);
        x.inherit(2, 0, true);
        x.plan(0, 0, 2);
        due.steps(x, 0, 13);
        due.is("ended", x.result(0), 0);
        long[] log = {101, 100, 1, 9, 2};
        for (int k = 0; k < log.length; k++) {
            due.is("logged(" + k + ")", x.logged(k), log[k]);
        }
        due.is("copied", x.statics(2, 0), 8);
    }

    private static void doneAndOwnClassesAreMadeAtOnce() {
        ClassStarter x = new ClassStarter();
        x.declare(-1, false, false, 0);
        x.act(0, 0, 1, 0);
        x.act(0, 0, 0, 0);
        x.declare(0, false, false, 0);
        x.plan(0, 0, 0);
        x.plan(0, 0, 1);
        due.steps(x, 0, 2);
        due.is("inside the subclass", x.inside(0), 1);
        due.steps(x, 0, 1);
        due.is("its superclass is busy by the same thread", x.inside(0), 1);
        due.steps(x, 0, 1);
        due.is("the subclass is done first", x.state(1), 1);
        due.is("the superclass is busy yet", x.state(0), 4);
        due.steps(x, 0, 2);
        due.is("the superclass is done", x.state(0), 1);
        due.steps(x, 0, 1);
        due.is("ended", x.result(0), 0);
        due.is("steps", x.count(1), 7);
    }

    private static void copies() {
        ClassStarter x = new ClassStarter();
        x.declare(-1, false, true, 77);
        x.act(0, 1, 99, Integer.MIN_VALUE);
        x.declare(-1, false, false, 77);
        x.act(1, 2, 0, 0);
        x.declare(-1, false, false, 0);
        x.act(2, 1, 0, 5);
        x.act(2, 2, 1, 1);
        x.declare(-1, false, false, 0);
        x.act(3, 1, 0, 6);
        x.act(3, 2, 0, 3);
        x.act(3, 5, 1, 0);
        for (int c = 1; c < 4; c++) {
            x.plan(0, 0, c);
        }
        due.steps(x, 0, 2);
        due.is("a copy of static 0 uses the class", x.inside(0), 0);
        due.steps(x, 0, 1);
        due.is("put", x.statics(0, 0), Integer.MIN_VALUE);
        due.is("the constant stays", x.statics(0, 1), 77);
        due.steps(x, 0, 1);
        due.is("copied", x.statics(1, 0), Integer.MIN_VALUE);
        due.steps(x, 0, 1);
        due.steps(x, 0, 2);
        due.is("put 5", x.statics(2, 0), 5);
        due.steps(x, 0, 1);
        due.is("static 1 that is no constant is 0", x.statics(2, 0), 0);
        due.steps(x, 0, 1);
        due.steps(x, 0, 3);
        due.is("the own static copied to itself", x.statics(3, 0), 6);
        due.steps(x, 0, 2);
        due.is("ended", x.result(0), 0);
    }

    private static void copyCopiesWhenTheClassIsDone() {
        ClassStarter x = new ClassStarter();
        x.declare(-1, false, false, 0);
        x.act(0, 2, 0, 1);
        x.act(0, 5, 1, 0);
        x.declare(-1, false, false, 0);
        x.act(1, 1, 0, 3);
        x.act(1, 1, 0, 4);
        x.plan(1, 0, 0);
        due.steps(x, 1, 4);
        due.is("not copied before", x.statics(0, 0), 0);
        due.steps(x, 1, 1);
        due.is("copied in the step that makes it done", x.statics(0, 0), 4);
        due.is("done", x.state(1), 1);
        due.steps(x, 1, 1);
        due.is("the next part", x.logged(0), 1);
    }

    private static void guardAndLogArePlainSteps() {
        ClassStarter x = new ClassStarter();
        x.plan(0, 6, 5);
        x.plan(0, 5, Integer.MAX_VALUE);
        x.plan(0, 6, 5);
        due.steps(x, 0, 3);
        due.is("ended", x.result(0), 0);
        due.is("logged", x.count(2), 1);
        due.is("logged(0)", x.logged(0), Integer.MAX_VALUE);
    }

    private static void waitingMakesNoStep() {
        ClassStarter x = new ClassStarter();
        x.declare(-1, false, false, 0);
        x.act(0, 5, 1, 0);
        x.plan(0, 0, 0);
        x.plan(1, 0, 0);
        x.plan(2, 5, 2);
        due.steps(x, 0, 1);
        due.is("waits", x.step(1), 0);
        due.is("waits again", x.step(1), 0);
        due.is("no step made", x.count(1), 1);
        due.is("waits for", x.waitsFor(1), 0);
        due.is("waiting alone is not stuck", x.result(1), -1);
        due.steps(x, 0, 2);
        due.is("waits no more", x.waitsFor(1), -1);
        due.is("not begun for it", x.state(0), 1);
        due.steps(x, 1, 1);
        due.is("ended", x.result(1), 0);
        due.is("the third has not ended", x.result(2), -1);
    }

    private static void stuckIsLeftByNoStep() {
        ClassStarter x = new ClassStarter();
        for (int c = 0; c < 3; c++) {
            x.declare(-1, false, false, 0);
            x.act(c, 0, (c + 1) % 3, 0);
            x.plan(c, 0, c);
        }
        due.steps(x, 0, 1);
        due.steps(x, 1, 1);
        due.is("thread 0 waits while thread 2 can step", x.waitsFor(0), 1);
        due.is("and is not stuck", x.result(0), -1);
        due.steps(x, 2, 1);
        for (int t = 0; t < 3; t++) {
            due.is("step of " + t, x.step(t), 0);
            due.is("result of " + t, x.result(t), 50);
            due.is("waits for", x.waitsFor(t), (t + 1) % 3);
            due.is("inside", x.inside(t), t);
            due.is("state", x.state(t), 4 + t);
        }
        due.is("steps", x.count(1), 3);
        due.is("reset", x.reset(), 3);
        due.is("stuck no more", x.result(0), -1);
    }
}
