/** Promise 6 with faults, and promise 10: how faults come, are guarded, leave classes and end threads. */
public final class FaultsTest {
    private static final Due due = new Due("FaultsTest");

    public static void main(String[] args) {
        resultOfEveryNumber();
        guardedNumbersInsideAClass();
        guardedNumbersOutsideAClass();
        guardReachesOnlyTheNextAction();
        guardsInARow();
        guardCoversNoUseAhead();
        faultInSuperclassAndInterface();
        faultLeavesOneFrameAStep();
        initStaysInit();
        missing();
        brokenForOthers();
        waitingThreadFindsItBroken();
        faultedCopyCopiesNothing();
        due.end();
    }

    private static void resultOfEveryNumber() {
        for (int n = 0; n <= 9; n++) {
            ClassStarter x = new ClassStarter();
            x.declare(-1, false, false, 0);
            x.act(0, 3, n, 0);
            x.declare(-1, false, false, 0);
            x.act(1, 4, n, 0);
            x.plan(0, 0, 0);
            x.plan(1, 0, 1);
            x.plan(2, 0, 2);
            due.steps(x, 0, 2);
            due.is("pending: no result", x.result(0), -1);
            due.is("pending: busy", x.state(0), 4);
            due.is("pending: inside", x.inside(0), 0);
            due.is("pending: does not wait", x.waitsFor(0), -1);
            due.steps(x, 0, 1);
            due.steps(x, 1, 3);
            due.steps(x, 2, 1);
            due.is("exception " + n, x.result(0), 31 + n);
            due.is("error " + n, x.result(1), 11 + n);
            due.is("missing", x.result(2), 21);
            for (int t = 0; t < 3; t++) {
                due.is("ended", x.step(t), -1);
                due.is("in its plan", x.inside(t), -1);
                due.is("waits for none", x.waitsFor(t), -1);
            }
            due.is("nothing logged", x.count(2), 0);
        }
    }

    private static void guardedNumbersInsideAClass() {
        for (int n = 0; n <= 9; n++) {
            ClassStarter x = new ClassStarter();
            x.declare(-1, false, false, 0);
            x.act(0, 6, 0, 0);
            x.act(0, 3, n, 0);
            x.act(0, 6, 0, 0);
            x.act(0, 4, n, 0);
            x.act(0, 5, 50, 0);
            x.plan(0, 0, 0);
            due.steps(x, 0, 7);
            due.is("ended", x.result(0), 0);
            due.is("done", x.state(0), 1);
            due.is("exception " + n, x.logged(0), n);
            due.is("error " + n, x.logged(1), n);
            due.is("the action behind", x.logged(2), 50);
            due.is("logged", x.count(2), 3);
        }
    }

    private static void guardedNumbersOutsideAClass() {
        for (int n = 0; n <= 9; n++) {
            ClassStarter x = new ClassStarter();
            x.declare(-1, false, false, 0);
            x.act(0, 3, n, 0);
            x.declare(-1, false, false, 0);
            x.act(1, 4, n, 0);
            x.declare(-1, false, false, 0);
            x.act(2, 6, 0, 0);
            x.act(2, 0, 0, 0);
            x.act(2, 6, 0, 0);
            x.act(2, 0, 1, 0);
            x.declare(-1, false, false, 0);
            x.act(3, 6, 0, 0);
            x.act(3, 2, 0, 7);
            x.act(3, 6, 0, 0);
            x.act(3, 2, 0, 1);
            x.plan(0, 0, 2);
            x.plan(0, 0, 3);
            due.steps(x, 0, 10);
            due.is("the class that guards is done", x.state(2), 1);
            due.is("the others failed", x.state(0) * 10 + x.state(1), 22);
            due.steps(x, 0, 6);
            due.is("ended", x.result(0), 0);
            due.is("init " + n, x.logged(0), 100 + n);
            due.is("error " + n, x.logged(1), n);
            due.is("missing", x.logged(2), -1);
            due.is("broken", x.logged(3), -2);
            due.is("logged", x.count(2), 4);
        }
    }

    private static void guardReachesOnlyTheNextAction() {
        ClassStarter x = new ClassStarter();
        x.declare(-1, false, false, 0);
        x.act(0, 6, 0, 0);
        x.act(0, 5, 1, 0);
        x.act(0, 3, 2, 0);
        x.plan(0, 6, 0);
        x.plan(0, 5, 0);
        x.plan(0, 0, 0);
        due.steps(x, 0, 7);
        due.is("init 2 went through", x.result(0), 33);
        due.is("logged", x.count(2), 2);
        due.is("failed", x.state(0), 2);
    }

    private static void guardsInARow() {
        ClassStarter x = new ClassStarter();
        x.plan(0, 6, 0);
        x.plan(0, 6, 0);
        x.plan(0, 0, 5);
        due.steps(x, 0, 3);
        due.is("dropped", x.result(0), 0);
        due.is("logged", x.logged(0), -1);
    }

    /** Class 1's use of its superclass stands before its actions; the guard below covers its own use. */
    private static void guardCoversNoUseAhead() {
        ClassStarter x = new ClassStarter();
        x.declare(-1, false, false, 0);
        x.act(0, 4, 6, 0);
        x.declare(0, false, false, 0);
        x.act(1, 6, 0, 0);
        x.act(1, 5, 9, 0);
        x.declare(-1, false, false, 0);
        x.act(2, 6, 0, 0);
        x.act(2, 0, 1, 0);
        x.plan(0, 0, 2);
        due.steps(x, 0, 6);
        due.is("class 0 failed", x.state(0), 2);
        due.is("pending in class 1", x.inside(0), 1);
        due.is("nothing logged", x.count(2), 0);
        due.steps(x, 0, 1);
        due.is("class 1 failed", x.state(1), 2);
        due.is("guarded in class 2", x.logged(0), 6);
        due.is("logged", x.count(2), 1);
        due.steps(x, 0, 1);
        due.is("class 2 is done", x.state(2), 1);
        due.is("ended", x.result(0), 0);
    }

    private static void faultInSuperclassAndInterface() {
        ClassStarter x = new ClassStarter();
        x.declare(-1, true, false, 0);
        x.act(0, 3, 1, 0);
        x.declare(-1, false, false, 0);
        x.act(1, 5, 1, 0);
        x.declare(1, false, false, 0);
        x.act(2, 5, 2, 0);
        x.inherit(2, 0, true);
        x.plan(0, 0, 2);
        due.steps(x, 0, 8);
        due.is("the interface's exception ends it", x.result(0), 32);
        due.is("the superclass is done", x.state(1), 1);
        due.is("the class failed", x.state(2), 2);
        due.is("its actions were not reached", x.count(2), 1);
    }

    private static void faultLeavesOneFrameAStep() {
        ClassStarter x = new ClassStarter();
        for (int c = 0; c < 3; c++) {
            x.declare(-1, false, false, 0);
            x.act(c, c < 2 ? 0 : 4, c < 2 ? c + 1 : 8, 0);
            x.act(c, 5, c, 0);
        }
        x.plan(0, 0, 0);
        due.steps(x, 0, 4);
        for (int c = 2; c >= 0; c--) {
            due.is("inside", x.inside(0), c);
            due.is("busy yet", x.state(c), 4);
            due.is("not ended", x.result(0), -1);
            due.steps(x, 0, 1);
            due.is("failed", x.state(c), 2);
        }
        due.is("ended", x.result(0), 19);
        due.is("nothing logged", x.count(2), 0);
    }

    private static void initStaysInit() {
        ClassStarter x = new ClassStarter();
        x.declare(-1, false, false, 0);
        x.act(0, 3, 9, 0);
        x.declare(0, false, false, 0);
        x.declare(1, false, false, 0);
        x.plan(0, 6, 0);
        x.plan(0, 0, 2);
        due.steps(x, 0, 8);
        due.is("init 9, once", x.logged(0), 109);
        due.is("ended", x.result(0), 0);
    }

    private static void missing() {
        ClassStarter x = new ClassStarter();
        x.declare(-1, false, false, 0);
        x.act(0, 2, 1, 4);
        x.declare(-1, false, false, 0);
        x.act(1, 2, 0, 4);
        x.declare(-1, false, false, 0);
        x.act(2, 0, 7, 0);
        for (int t = 0; t < 3; t++) {
            x.plan(t, 0, t);
            due.steps(x, t, 3);
            due.is("missing stays missing", x.result(t), 21);
            due.is("failed", x.state(t), 2);
            x.reset();
        }
        due.is("declared later", x.declare(-1, false, true, 0), 3);
        due.is("declared later", x.declare(-1, false, true, 6), 4);
        due.steps(x, 0, 3);
        due.is("found now, as a constant", x.statics(0, 0), 6);
        due.is("without a use", x.state(4), 0);
    }

    private static void brokenForOthers() {
        ClassStarter x = new ClassStarter();
        x.declare(-1, false, false, 0);
        x.act(0, 3, 0, 0);
        x.declare(0, false, false, 0);
        x.plan(0, 6, 0);
        x.plan(0, 0, 0);
        x.plan(0, 0, 0);
        x.plan(1, 0, 1);
        x.plan(2, 6, 0);
        x.plan(2, 0, 1);
        due.steps(x, 0, 5);
        due.is("the same thread finds it broken", x.result(0), 22);
        due.steps(x, 1, 3);
        due.is("a subclass fails with broken", x.result(1), 22);
        due.is("and is failed", x.state(1), 2);
        due.steps(x, 2, 2);
        due.is("guarded", x.result(2), 0);
        due.is("init logged", x.logged(0), 100);
        due.is("broken logged", x.logged(1), -2);
    }

    private static void waitingThreadFindsItBroken() {
        ClassStarter x = new ClassStarter();
        x.declare(-1, false, false, 0);
        x.act(0, 4, 0, 0);
        x.plan(0, 0, 0);
        x.plan(1, 0, 0);
        due.steps(x, 0, 2);
        due.is("waits while the fault is pending", x.step(1), 0);
        due.steps(x, 0, 1);
        due.steps(x, 1, 1);
        due.is("broken", x.result(1), 22);
        due.is("error 0", x.result(0), 11);
    }

    private static void faultedCopyCopiesNothing() {
        ClassStarter x = new ClassStarter();
        x.declare(-1, false, false, 0);
        x.act(0, 1, 0, 5);
        x.act(0, 4, 0, 0);
        x.declare(-1, false, false, 0);
        x.act(1, 1, 0, 7);
        x.act(1, 6, 0, 0);
        x.act(1, 2, 0, 0);
        x.plan(0, 0, 1);
        due.steps(x, 0, 7);
        due.is("logged", x.logged(0), 0);
        due.is("the failed class keeps its static", x.statics(0, 0), 5);
        due.is("nothing was copied", x.statics(1, 0), 7);
        due.steps(x, 0, 1);
        due.is("done", x.state(1), 1);
    }
}
