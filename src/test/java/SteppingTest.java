/** Promises 6 and 7, step and reset, by the rules of a STEP; with state and statics on the way. */
public final class SteppingTest {
    private static final Due due = new Due("SteppingTest");

    public static void main(String[] args) {
        stepRefuses();
        stepsOfAPlainUse();
        partsInOrder();
        interfaceAddedBehindActions();
        interfaceUsesJustItsActions();
        doneAndOwnClassesAreMadeAtOnce();
        copies();
        copyCopiesWhenTheClassIsDone();
        constantCopyIsNoUse();
        guardAndLogArePlainSteps();
        waitingMakesNoStep();
        stuckIsLeftByNoStep();
        resetBringsAllBack();
        longestRun();
        due.end();
    }

    private static void steps(ClassStarter x, int t, int times) {
        for (int k = 0; k < times; k++) {
            due.is("step(" + t + ") number " + k, x.step(t), 1);
        }
    }

    private static void stepRefuses() {
        ClassStarter x = new ClassStarter();
        int[] noThreads = {Integer.MIN_VALUE, -1, 3, Integer.MAX_VALUE};
        x.plan(0, 5, 1);
        for (int t : noThreads) {
            due.is("step(" + t + ")", x.step(t), -1);
        }
        due.is("an empty plan has ended", x.step(1), -1);
        due.is("not begun by refused steps", x.count(5), 0);
        due.is("still declaring", x.declare(-1, false, false, 0), 0);
        steps(x, 0, 1);
        due.is("begun", x.count(5), 1);
        due.is("ended with no step more", x.result(0), 0);
        due.is("a step behind the end", x.step(0), -1);
        due.is("a refused step is none", x.count(1), 1);
    }

    private static void stepsOfAPlainUse() {
        ClassStarter x = new ClassStarter();
        x.declare(-1, false, false, 0);
        x.plan(2, 0, 0);
        steps(x, 2, 1);
        due.is("busy", x.state(0), 6);
        due.is("inside", x.inside(2), 0);
        due.is("not ended", x.result(2), -1);
        steps(x, 2, 1);
        due.is("done", x.state(0), 1);
        due.is("out of it", x.inside(2), -1);
        due.is("ended", x.result(2), 0);
    }

    private static void partsInOrder() {
        ClassStarter x = new ClassStarter();
        for (int c = 0; c < 3; c++) {
            x.declare(-1, c > 0, false, 0);
            x.act(c, 5, c, 0);
        }
        x.declare(0, false, false, 0);
        x.inherit(3, 2, true);
        x.inherit(3, 1, true);
        x.act(3, 5, 30, 0);
        x.act(3, 5, 31, 0);
        x.plan(0, 0, 3);
        steps(x, 0, 13);
        due.is("ended", x.result(0), 0);
        long[] log = {0, 2, 1, 30, 31};
        for (int k = 0; k < log.length; k++) {
            due.is("logged(" + k + ")", x.logged(k), log[k]);
        }
    }

    private static void interfaceAddedBehindActions() {
        ClassStarter x = new ClassStarter();
        x.declare(-1, true, false, 0);
        x.act(0, 5, 100, 0);
        x.declare(-1, true, true, 8);
        x.act(1, 5, 101, 0);
        x.declare(-1, false, false, 0);
        x.act(2, 5, 1, 5);
        x.act(2, 2, 1, 1);
        x.act(2, 6, 0, 0);
        x.act(2, 3, 9, 0);
        x.act(2, 5, 2, 0);
        x.inherit(2, 1, true);
        x.inherit(2, 0, true);
        x.plan(0, 0, 2);
        steps(x, 0, 13);
        due.is("ended", x.result(0), 0);
        long[] log = {101, 100, 1, 9, 2};
        for (int k = 0; k < log.length; k++) {
            due.is("logged(" + k + ")", x.logged(k), log[k]);
        }
        due.is("copied", x.statics(2, 0), 8);
    }

    private static void interfaceUsesJustItsActions() {
        ClassStarter x = new ClassStarter();
        x.declare(-1, true, false, 0);
        x.act(0, 1, 0, -7);
        x.plan(0, 0, 0);
        steps(x, 0, 3);
        due.is("put", x.statics(0, 0), -7);
        due.is("done", x.state(0), 1);
    }

    private static void doneAndOwnClassesAreMadeAtOnce() {
        ClassStarter x = new ClassStarter();
        x.declare(-1, false, false, 0);
        x.act(0, 0, 1, 0);
        x.act(0, 0, 0, 0);
        x.declare(0, false, false, 0);
        x.plan(0, 0, 0);
        x.plan(0, 0, 1);
        steps(x, 0, 2);
        due.is("inside the subclass", x.inside(0), 1);
        steps(x, 0, 1);
        due.is("its superclass is busy by the same thread", x.inside(0), 1);
        steps(x, 0, 1);
        due.is("the subclass is done first", x.state(1), 1);
        due.is("the superclass is busy yet", x.state(0), 4);
        steps(x, 0, 2);
        due.is("the superclass is done", x.state(0), 1);
        steps(x, 0, 1);
        due.is("ended", x.result(0), 0);
        due.is("steps", x.count(1), 7);
    }

    private static void copies() {
        ClassStarter x = new ClassStarter();
        x.declare(-1, false, true, 77);
        x.act(0, 1, 99, Integer.MIN_VALUE);
        x.declare(-1, false, false, 77);
        x.act(1, 2, 0, 0);
        x.declare(-1, false, false, 0);
        x.act(2, 1, 0, 5);
        x.act(2, 2, 1, 1);
        x.declare(-1, false, false, 0);
        x.act(3, 1, 0, 6);
        x.act(3, 2, 0, 3);
        x.act(3, 5, 1, 0);
        for (int c = 1; c < 4; c++) {
            x.plan(0, 0, c);
        }
        steps(x, 0, 2);
        due.is("a copy of static 0 uses the class", x.inside(0), 0);
        steps(x, 0, 1);
        due.is("put", x.statics(0, 0), Integer.MIN_VALUE);
        due.is("the constant stays", x.statics(0, 1), 77);
        steps(x, 0, 1);
        due.is("copied", x.statics(1, 0), Integer.MIN_VALUE);
        steps(x, 0, 1);
        steps(x, 0, 2);
        due.is("put 5", x.statics(2, 0), 5);
        steps(x, 0, 1);
        due.is("static 1 that is no constant is 0", x.statics(2, 0), 0);
        steps(x, 0, 1);
        steps(x, 0, 3);
        due.is("the own static copied to itself", x.statics(3, 0), 6);
        steps(x, 0, 2);
        due.is("ended", x.result(0), 0);
    }

    private static void copyCopiesWhenTheClassIsDone() {
        ClassStarter x = new ClassStarter();
        x.declare(-1, false, false, 0);
        x.act(0, 2, 0, 1);
        x.act(0, 5, 1, 0);
        x.declare(-1, false, false, 0);
        x.act(1, 1, 0, 3);
        x.act(1, 1, 0, 4);
        x.plan(1, 0, 0);
        steps(x, 1, 4);
        due.is("not copied before", x.statics(0, 0), 0);
        steps(x, 1, 1);
        due.is("copied in the step that makes it done", x.statics(0, 0), 4);
        due.is("done", x.state(1), 1);
        steps(x, 1, 1);
        due.is("the next part", x.logged(0), 1);
    }

    private static void constantCopyIsNoUse() {
        ClassStarter x = new ClassStarter();
        x.declare(-1, false, true, -9);
        x.act(0, 5, 1, 0);
        x.declare(-1, false, false, 0);
        x.act(1, 2, 1, 0);
        x.act(1, 2, 1, 2);
        x.declare(-1, false, false, 0);
        x.plan(0, 0, 0);
        x.plan(1, 0, 1);
        steps(x, 0, 1);
        steps(x, 1, 1);
        due.is("it does not wait for a busy class", x.waitsFor(1), -1);
        steps(x, 1, 1);
        due.is("copied", x.statics(1, 0), -9);
        due.is("the class stays as it was", x.state(0), 4);
        steps(x, 1, 1);
        due.is("static 1 without constant is a use", x.inside(1), 2);
    }

    private static void guardAndLogArePlainSteps() {
        ClassStarter x = new ClassStarter();
        x.plan(0, 6, 5);
        x.plan(0, 5, Integer.MAX_VALUE);
        x.plan(0, 6, 5);
        steps(x, 0, 3);
        due.is("ended", x.result(0), 0);
        due.is("logged", x.count(2), 1);
        due.is("logged(0)", x.logged(0), Integer.MAX_VALUE);
    }

    private static void waitingMakesNoStep() {
        ClassStarter x = new ClassStarter();
        x.declare(-1, false, false, 0);
        x.act(0, 5, 1, 0);
        x.plan(0, 0, 0);
        x.plan(1, 0, 0);
        x.plan(2, 5, 2);
        steps(x, 0, 1);
        due.is("waits", x.step(1), 0);
        due.is("waits again", x.step(1), 0);
        due.is("no step made", x.count(1), 1);
        due.is("waits for", x.waitsFor(1), 0);
        due.is("waiting alone is not stuck", x.result(1), -1);
        steps(x, 0, 2);
        due.is("waits no more", x.waitsFor(1), -1);
        due.is("not begun for it", x.state(0), 1);
        steps(x, 1, 1);
        due.is("ended", x.result(1), 0);
        due.is("the third has not ended", x.result(2), -1);
    }

    private static void stuckIsLeftByNoStep() {
        ClassStarter x = new ClassStarter();
        for (int c = 0; c < 3; c++) {
            x.declare(-1, false, false, 0);
            x.act(c, 0, (c + 1) % 3, 0);
            x.plan(c, 0, c);
        }
        steps(x, 0, 1);
        steps(x, 1, 1);
        due.is("thread 0 waits while thread 2 can step", x.waitsFor(0), 1);
        due.is("and is not stuck", x.result(0), -1);
        steps(x, 2, 1);
        for (int t = 0; t < 3; t++) {
            due.is("step of " + t, x.step(t), 0);
            due.is("result of " + t, x.result(t), 50);
            due.is("waits for", x.waitsFor(t), (t + 1) % 3);
            due.is("inside", x.inside(t), t);
            due.is("state", x.state(t), 4 + t);
        }
        due.is("steps", x.count(1), 3);
        due.is("reset", x.reset(), 3);
        due.is("stuck no more", x.result(0), -1);
    }

    private static void resetBringsAllBack() {
        ClassStarter x = new ClassStarter();
        x.declare(-1, false, true, 3);
        x.act(0, 1, 0, 8);
        x.act(0, 5, 4, 0);
        x.act(0, 4, 2, 0);
        x.plan(0, 0, 0);
        x.plan(1, 0, 0);
        due.is("nothing to reset", x.reset(), 0);
        for (int round = 0; round < 2; round++) {
            steps(x, 0, 4);
            due.is("reset with a pending fault", x.reset(), 4);
            steps(x, 1, 5);
            due.is("failed", x.state(0), 2);
            due.is("error 2", x.result(1), 13);
            due.is("logged", x.logged(0), 4);
            due.is("put", x.statics(0, 0), 8);
            due.is("reset", x.reset(), 5);
            due.is("reset again", x.reset(), 0);
            due.is("new again", x.state(0), 0);
            due.is("static 0 as declared", x.statics(0, 0), 0);
            due.is("the constant", x.statics(0, 1), 3);
            due.is("nothing logged", x.count(2), 0);
            due.is("nothing to read", x.logged(0), ClassStarter.NONE);
            due.is("no steps", x.count(1), 0);
            due.is("not begun", x.count(5), 0);
            due.is("at the start", x.result(1), -1);
            due.is("out of all", x.inside(1), -1);
        }
        due.is("declaring again", x.declare(-1, false, false, 0), 1);
    }

    /** All classes in one chain, each with all that it can have: no row may be too short for it. */
    private static void longestRun() {
        ClassStarter x = new ClassStarter();
        for (int c = 0; c < 8; c++) {
            x.declare(c < 3 ? -1 : c - 1, c < 2, false, 0);
            if (c >= 2) {
                x.inherit(c, 0, true);
                x.inherit(c, 1, true);
            }
            for (int k = 0; k < 5; k++) {
                x.act(c, 5, 10 * c + k, 0);
            }
        }
        x.plan(0, 0, 7);
        for (int k = 0; k < 3; k++) {
            x.plan(0, 5, 100 + k);
            x.plan(1, 5, 1000 + k);
            x.plan(2, 5, 2000 + k);
        }
        steps(x, 0, 68);
        steps(x, 1, 3);
        steps(x, 2, 3);
        for (int t = 0; t < 3; t++) {
            due.is("ended: " + t, x.result(t), 0);
        }
        for (int c = 0; c < 8; c++) {
            due.is("done: " + c, x.state(c), 1);
        }
        due.is("logged", x.count(2), 8 * 5 + 2 + 6);
        due.is("logged first", x.logged(0), 0);
        due.is("logged last of the classes", x.logged(39), 74);
        due.is("logged last", x.logged(47), 2002);
    }
}
