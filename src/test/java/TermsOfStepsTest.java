/** What the document's terms say of frames, steps, faults that come and ends: each sentence, with its boundaries. */
public final class TermsOfStepsTest {
    private static final Due due = new Due("Terms of steps");

    public static void main(String[] args) {
        lowestFrameIsThePlan();
        eachOtherFrameIsAClass();
        partsOfThePlanAreItsActions();
        superclassThenInterfacesThenActions();
        interfaceHasJustItsActions();
        everythingFull();
        atTheFirstWhenItBegins();
        emptyInitialiser();
        mayHaveAPendingFault();
        notOneThatHasEnded();
        firstOfTheseThatFits();
        pendingFaultFailsTheClass();
        exceptionBecomesInitOnce();
        otherFaultsStay();
        faultComesToTheFrameOnTopNow();
        faultInTheDeepestFrame();
        behindTheLastPart();
        notDeclaredIsMissing();
        doneOrBusyByThisThread();
        failedIsBroken();
        newOneGetsAFrame();
        busyByAnotherWaits();
        faultComesAtARaise();
        anyOtherActionIsDone();
        madeCopiesTheStatic();
        madeStandsAtTheNextPart();
        copyThatUsesNoClass();
        rightBehindAGuard();
        useAheadIsNotGuarded();
        useAheadGuardsNothing();
        endsWithItInAPlan();
        pendingInAClass();
        endsWithNoStepMore();
        emptyPlanHasEnded();
        stuckIfNoThreadCanStep();
        waitingIsNotYetStuck();
        eachResult();
        refusedChangesNothing();
        due.end();
    }

    private static void lowestFrameIsThePlan() {
        due.by(11, "A thread has a stack of FRAMES: the lowest is its PLAN");
        for (int t = 0; t <= 2; t++) {
            ClassStarter x = Given.classes(1);
            x.plan(t, 0, 0);
            x.plan(t, 5, 1);
            due.is("in its plan at first", x.inside(t), -1);
            due.steps(x, t, 1);
            due.is("in the class", x.inside(t), 0);
            due.steps(x, t, 1);
            due.is("in its plan again", x.inside(t), -1);
            due.steps(x, t, 1);
            due.is("and at its end", x.inside(t), -1);
        }
    }

    private static void eachOtherFrameIsAClass() {
        due.by(11, "A thread has a stack of FRAMES: the lowest is its PLAN, each other one a class that it is initialising.");
        ClassStarter x = Given.classes(8);
        for (int c = 0; c <= 6; c++) {
            x.act(c, 0, c + 1, 0);
        }
        x.plan(2, 0, 0);
        for (int c = 0; c <= 7; c++) {
            due.steps(x, 2, 1);
            due.is("on top", x.inside(2), c);
            due.is("it is initialising it", x.state(c), 6);
        }
        for (int c = 7; c >= 0; c--) {
            due.is("on top again", x.inside(2), c);
            due.is("busy until its frame goes", x.state(c), 6);
            due.steps(x, 2, 1);
            due.is("done", x.state(c), 1);
        }
        due.is("ended", x.result(2), 0);
    }

    private static void partsOfThePlanAreItsActions() {
        due.by(6, "A FRAME has PARTS: those of the PLAN its actions");
        ClassStarter x = Given.classes(1);
        x.plan(0, 5, 4);
        x.plan(0, 6, 0);
        x.plan(0, 0, 0);
        due.steps(x, 0, 1);
        due.is("the first", x.logged(0), 4);
        due.steps(x, 0, 1);
        due.is("the second", x.state(0), 0);
        due.steps(x, 0, 1);
        due.is("the third", x.state(0), 4);
        due.steps(x, 0, 1);
        due.is("no other", x.result(0), 0);
    }

    private static void superclassThenInterfacesThenActions() {
        due.by(3, "a use of its superclass, if it has one, then of its DEFAULTED interfaces in order, then its actions in order");
        ClassStarter x = new ClassStarter();
        for (int c = 0; c <= 2; c++) {
            x.declare(-1, c < 2, false, 0);
            x.act(c, 5, c, 0);
        }
        x.declare(2, false, false, 0);
        x.act(3, 5, 30, 0);
        x.inherit(3, 1, true);
        x.act(3, 5, 31, 0);
        x.act(3, 1, 0, 7);
        x.inherit(3, 0, true);
        x.plan(0, 0, 3);
        due.steps(x, 0, 14);
        due.is("ended", x.result(0), 0);
        due.is("put", x.statics(3, 0), 7);
        long[] log = {2, 1, 0, 30, 31};
        for (int k = 0; k < log.length; k++) {
            due.is("logged(" + k + ")", x.logged(k), log[k]);
        }
    }

    private static void interfaceHasJustItsActions() {
        due.by(6, "(for an interface just its actions)");
        ClassStarter x = new ClassStarter();
        x.declare(-1, true, false, 0);
        x.declare(-1, true, false, 0);
        x.act(1, 5, 4, 0);
        x.plan(0, 0, 1);
        due.steps(x, 0, 2);
        due.is("its first part is its first action", x.logged(0), 4);
        due.steps(x, 0, 1);
        due.is("ended", x.result(0), 0);
        due.is("no other was used", x.state(0), 0);
    }

    /** All classes with all that they can have, in one chain; all plans full: no row may be too short. */
    private static void everythingFull() {
        due.by(6, "CLASSES 0 .. 7 .. THREADS 0 .. 2 each have a PLAN of at most 3 actions");
        ClassStarter x = new ClassStarter();
        for (int c = 0; c <= 7; c++) {
            x.declare(c < 3 ? -1 : c - 1, c < 2, false, 0);
            if (c >= 2) {
                x.inherit(c, 0, true);
                x.inherit(c, 1, true);
            }
            for (int k = 0; k < 5; k++) {
                x.act(c, 5, 10 * c + k, 0);
            }
        }
        x.plan(0, 0, 7);
        for (int k = 0; k < 3; k++) {
            x.plan(0, 5, 100 + k);
            x.plan(1, 5, 200 + k);
            x.plan(2, 5, 300 + k);
        }
        due.steps(x, 0, 68);
        due.steps(x, 1, 3);
        due.steps(x, 2, 3);
        for (int t = 0; t <= 2; t++) {
            due.is("ended: " + t, x.result(t), 0);
        }
        for (int c = 0; c <= 7; c++) {
            due.is("done: " + c, x.state(c), 1);
        }
        due.is("logged", x.count(2), 48);
        due.is("logged last of the classes", x.logged(39), 74);
        due.is("logged last", x.logged(47), 302);
    }

    private static void atTheFirstWhenItBegins() {
        due.by(6, "It stands at a PART, the first one when it begins, or behind the last.");
        ClassStarter x = Given.classes(1);
        x.act(0, 5, 1, 0);
        x.act(0, 5, 2, 0);
        x.plan(0, 0, 0);
        for (int times = 0; times < 2; times++) {
            due.steps(x, 0, 2);
            due.is("the first part", x.logged(0), 1);
            due.steps(x, 0, 1);
            due.is("the last part", x.logged(1), 2);
            due.is("behind the last, busy yet", x.state(0), 4);
            due.steps(x, 0, 1);
            due.is("done", x.state(0), 1);
            x.reset();
        }
    }

    private static void emptyInitialiser() {
        due.by(6, "It stands at a PART, the first one when it begins, or behind the last.");
        ClassStarter x = Given.classes(1);
        x.plan(0, 0, 0);
        due.steps(x, 0, 1);
        due.is("behind the last from its beginning", x.inside(0), 0);
        due.steps(x, 0, 1);
        due.is("done", x.state(0), 1);
        due.is("ended", x.result(0), 0);
    }

    private static void mayHaveAPendingFault() {
        due.by(6, "A thread may have a PENDING fault.");
        ClassStarter x = Given.classes(2);
        x.act(0, 4, 3, 0);
        x.act(1, 3, 4, 0);
        x.plan(0, 0, 0);
        x.plan(1, 0, 1);
        x.plan(2, 5, 8);
        due.steps(x, 0, 2);
        due.steps(x, 1, 2);
        due.steps(x, 2, 1);
        due.is("each has its own, and neither has ended", x.result(0) + x.result(1), -2);
        due.is("the third has none", x.result(2), 0);
        due.steps(x, 1, 1);
        due.steps(x, 0, 1);
        due.is("the first one's", x.result(0), 14);
        due.is("the second one's", x.result(1), 35);
    }

    private static void notOneThatHasEnded() {
        due.by(6, "A STEP of a thread that has not ENDED");
        ClassStarter x = Given.classes(1);
        x.act(0, 4, 0, 0);
        x.plan(0, 5, 1);
        x.plan(1, 0, 0);
        x.plan(1, 5, 2);
        due.steps(x, 0, 1);
        due.steps(x, 1, 3);
        due.is("ended without fault", x.step(0), -1);
        due.is("ended with one, before its last part", x.step(1), -1);
        due.is("ended from the start", x.step(2), -1);
        due.is("no step was made", x.count(1), 4);
        due.is("nothing was logged", x.count(2), 1);
    }

    /** The frame with the fault stands yet at the use of the failed class, of which another step would make BROKEN. */
    private static void firstOfTheseThatFits() {
        due.by(6, "is the first of these that fits, the top FRAME being meant");
        ClassStarter x = Given.classes(3);
        x.act(0, 0, 1, 0);
        x.act(1, 3, 4, 0);
        x.act(2, 0, 7, 0);
        x.plan(0, 0, 0);
        x.plan(1, 0, 2);
        due.steps(x, 0, 5);
        due.is("1 goes before 3: no broken", x.result(0), 35);
        due.is("both failed", 10 * x.state(0) + x.state(1), 22);
        due.steps(x, 1, 3);
        due.is("1 goes before 3: missing once", x.result(1), 21);
        due.is("failed", x.state(2), 2);
    }

    private static void pendingFaultFailsTheClass() {
        due.by(6, "There is a PENDING fault: its class is FAILED and the FRAME goes.");
        ClassStarter x = Given.classes(2);
        x.act(0, 0, 1, 0);
        x.act(1, 4, 0, 0);
        x.plan(0, 0, 0);
        x.plan(1, 0, 1);
        due.steps(x, 0, 3);
        due.is("pending in class 1", x.state(1), 4);
        due.is("the other waits", x.step(1), 0);
        due.steps(x, 0, 1);
        due.is("class 1 failed", x.state(1), 2);
        due.is("its frame went", x.inside(0), 0);
        due.is("pending in class 0", x.state(0), 4);
        due.steps(x, 0, 1);
        due.is("class 0 failed", x.state(0), 2);
        due.is("its frame went", x.inside(0), -1);
        due.is("ended", x.result(0), 11);
    }

    private static void exceptionBecomesInitOnce() {
        due.by(13, "An exception n becomes INIT n.");
        ClassStarter x = new ClassStarter();
        for (int c = 0; c <= 7; c++) {
            x.declare(c - 1, false, false, 0);
        }
        x.act(0, 3, 9, 0);
        x.plan(0, 6, 0);
        x.plan(0, 0, 7);
        due.steps(x, 0, 18);
        due.is("through eight classes", x.logged(0), 109);
        due.is("ended", x.result(0), 0);
    }

    private static void otherFaultsStay() {
        due.by(10, "An exception n becomes INIT n. The fault COMES to the FRAME that is on top now.");
        int[][] actionsAndResults = {{4, 0, 11}, {4, 9, 20}, {0, 7, 21}};
        for (int[] row : actionsAndResults) {
            ClassStarter x = new ClassStarter();
            for (int c = 0; c <= 2; c++) {
                x.declare(c - 1, false, false, 0);
            }
            x.act(0, row[0], row[1], 0);
            x.plan(0, 0, 2);
            x.plan(1, 0, 1);
            due.steps(x, 0, 7);
            due.is("through three classes", x.result(0), row[2]);
            due.steps(x, 1, 1);
            due.is("broken", x.result(1), 22);
        }
    }

    /** The guard of class 1 is met in the step in which class 0 fails, and before the guard of the plan. */
    private static void faultComesToTheFrameOnTopNow() {
        due.by(13, "The fault COMES to the FRAME that is on top now.");
        ClassStarter x = Given.classes(2);
        x.act(0, 3, 6, 0);
        x.act(1, 6, 0, 0);
        x.act(1, 0, 0, 0);
        x.plan(0, 6, 0);
        x.plan(0, 0, 1);
        due.steps(x, 0, 5);
        due.is("busy yet", x.state(0), 4);
        due.is("not come yet", x.count(2), 0);
        due.steps(x, 0, 1);
        due.is("failed", x.state(0), 2);
        due.is("it came in the same step", x.logged(0), 106);
        due.steps(x, 0, 1);
        due.is("class 1 is done", x.state(1), 1);
        due.is("ended", x.result(0), 0);
        due.is("it came to one frame only", x.count(2), 1);
    }

    private static void faultInTheDeepestFrame() {
        due.by(11, "A thread has a stack of FRAMES");
        ClassStarter x = Given.classes(8);
        for (int c = 0; c <= 6; c++) {
            x.act(c, 0, c + 1, 0);
        }
        x.act(7, 4, 5, 0);
        x.plan(2, 0, 0);
        due.steps(x, 2, 9);
        for (int c = 7; c >= 0; c--) {
            due.is("inside", x.inside(2), c);
            due.is("busy", x.state(c), 6);
            due.steps(x, 2, 1);
            due.is("failed", x.state(c), 2);
        }
        due.is("ended", x.result(2), 16);
    }

    private static void behindTheLastPart() {
        due.by(6, "It stands behind its last PART (of a class): the class is DONE and the FRAME goes; the use at which the FRAME on top now stands is MADE.");
        ClassStarter x = Given.classes(2);
        x.act(0, 2, 0, 1);
        x.act(1, 1, 0, 8);
        x.plan(0, 0, 0);
        due.steps(x, 0, 3);
        due.is("behind the last part, busy yet", x.state(1), 4);
        due.is("the use is not made yet", x.statics(0, 0), 0);
        due.steps(x, 0, 1);
        due.is("done", x.state(1), 1);
        due.is("the frame is gone", x.inside(0), 0);
        due.is("the use is made", x.statics(0, 0), 8);
    }

    private static void notDeclaredIsMissing() {
        due.by(6, "It stands at a use of a class: of one that is not declared: MISSING COMES");
        for (int declared = 1; declared <= 7; declared++) {
            ClassStarter x = Given.classes(declared);
            x.act(0, 2, 1, declared);
            x.plan(0, 0, declared);
            x.plan(1, 0, 7);
            x.plan(2, 0, 0);
            due.steps(x, 0, 1);
            due.is("the next number", x.result(0), 21);
            due.steps(x, 1, 1);
            due.is("the greatest", x.result(1), 21);
            due.steps(x, 2, 3);
            due.is("in a copy", x.result(2), 21);
        }
    }

    private static void doneOrBusyByThisThread() {
        due.by(6, "one that is DONE, or BUSY by this thread: MADE");
        ClassStarter x = Given.classes(2);
        x.act(0, 0, 1, 0);
        x.act(1, 0, 0, 0);
        x.plan(0, 0, 0);
        x.plan(0, 0, 1);
        due.steps(x, 0, 3);
        due.is("class 0 is busy by this thread", x.inside(0), 1);
        due.steps(x, 0, 2);
        due.is("both are done", 10 * x.state(0) + x.state(1), 11);
        due.steps(x, 0, 1);
        due.is("ended", x.result(0), 0);
    }

    private static void failedIsBroken() {
        due.by(10, "FAILED: BROKEN COMES");
        ClassStarter x = Given.classes(1);
        x.act(0, 4, 3, 0);
        for (int t = 0; t <= 2; t++) {
            x.plan(t, 6, 0);
            x.plan(t, 0, 0);
            x.plan(t, 0, 0);
        }
        due.steps(x, 0, 4);
        due.is("the fault itself, once", x.logged(0), 3);
        due.steps(x, 0, 1);
        due.is("broken", x.result(0), 22);
        due.steps(x, 1, 2);
        due.is("broken, guarded", x.logged(1), -2);
        due.steps(x, 1, 1);
        due.is("broken", x.result(1), 22);
    }

    private static void newOneGetsAFrame() {
        due.by(6, "NEW: it is BUSY by this thread and a new FRAME of it is on top.");
        for (int t = 0; t <= 2; t++) {
            ClassStarter x = Given.classes(2);
            x.act(1, 5, 3, 0);
            x.plan(t, 0, 1);
            due.steps(x, t, 1);
            due.is("busy", x.state(1), 4 + t);
            due.is("on top", x.inside(t), 1);
            due.is("nothing of it is done yet", x.count(2), 0);
            due.is("the other is new", x.state(0), 0);
        }
    }

    /** Thread 0 is in class 0; each other thread comes to it by another kind of use, the third behind an action. */
    private static void busyByAnotherWaits() {
        due.by(12, "(Of one that is BUSY by another thread: the thread WAITS: it makes no STEP.)");
        ClassStarter x = Given.classes(1);
        x.declare(0, false, false, 0);
        x.declare(-1, false, false, 0);
        x.act(0, 1, 0, 6);
        x.act(2, 5, 1, 0);
        x.act(2, 2, 0, 0);
        for (int t = 0; t <= 2; t++) {
            x.plan(t, 0, t);
        }
        for (int t = 0; t <= 2; t++) {
            due.steps(x, t, 1);
        }
        due.is("not at its use yet", x.waitsFor(2), -1);
        due.steps(x, 2, 1);
        for (int t = 1; t <= 2; t++) {
            due.is("waits for", x.waitsFor(t), 0);
            due.is("step", x.step(t), 0);
            due.is("inside as before", x.inside(t), t);
        }
        due.is("no step more", x.count(1), 4);
        due.is("the one that is in it does not wait", x.waitsFor(0), -1);
        due.steps(x, 0, 2);
        for (int t = 1; t <= 2; t++) {
            due.is("waits no more", x.waitsFor(t), -1);
            due.steps(x, t, 2);
            due.is("ended", x.result(t), 0);
        }
        due.is("copied when it was done", x.statics(2, 0), 6);
    }

    private static void faultComesAtARaise() {
        due.by(6, "It stands at a 3 or 4: the fault COMES.");
        for (int action = 3; action <= 4; action++) {
            ClassStarter x = Given.classes(1);
            x.act(0, action, 2, 0);
            x.act(0, 5, 1, 0);
            x.plan(0, 0, 0);
            due.steps(x, 0, 2);
            due.is("busy in the step in which it comes", x.state(0), 4);
            due.is("inside yet", x.inside(0), 0);
            due.steps(x, 0, 1);
            due.is("failed in the next", x.state(0), 2);
            due.is("the action behind is not done", x.count(2), 0);
            due.is("ended", x.result(0), action == 3 ? 33 : 13);
        }
    }

    private static void anyOtherActionIsDone() {
        due.by(6, "At any other action: that is done, and it stands at the next PART.");
        ClassStarter x = new ClassStarter();
        x.declare(-1, false, true, 9);
        x.act(0, 1, 0, 5);
        x.act(0, 6, 0, 0);
        x.act(0, 5, 6, 0);
        x.act(0, 2, 1, 0);
        x.act(0, 5, 7, 0);
        x.plan(0, 0, 0);
        due.steps(x, 0, 2);
        due.is("put", x.statics(0, 0), 5);
        due.steps(x, 0, 1);
        due.is("a guard does nothing by itself", x.count(2), 0);
        due.steps(x, 0, 1);
        due.is("log", x.logged(0), 6);
        due.steps(x, 0, 1);
        due.is("a copy that is no use", x.statics(0, 0), 9);
        due.steps(x, 0, 1);
        due.is("log", x.logged(1), 7);
        due.steps(x, 0, 1);
        due.is("done", x.state(0), 1);
    }

    /** Class 1 copies from class 0 when it is made done for it, when it is done already, and while both are busy. */
    private static void madeCopiesTheStatic() {
        due.by(9, "MADE: for 2 the static is copied");
        ClassStarter x = Given.classes(3);
        x.act(0, 1, 0, 3);
        x.act(0, 0, 2, 0);
        x.act(0, 1, 0, 4);
        x.act(1, 2, 0, 0);
        x.act(2, 2, 0, 0);
        x.plan(0, 0, 1);
        due.steps(x, 0, 4);
        due.is("class 2 is begun", x.inside(0), 2);
        due.steps(x, 0, 1);
        due.is("busy by this thread: what it has now", x.statics(2, 0), 3);
        due.steps(x, 0, 2);
        due.is("not yet", x.statics(1, 0), 0);
        due.steps(x, 0, 1);
        due.is("made done for it: what it has at its end", x.statics(1, 0), 4);
        x.reset();
        x.plan(1, 0, 0);
        due.steps(x, 1, 7);
        due.is("done before", x.result(1), 0);
        due.steps(x, 0, 2);
        due.is("done already: what it has", x.statics(1, 0), 4);
    }

    private static void madeStandsAtTheNextPart() {
        due.by(6, "then the FRAME stands at the next PART");
        ClassStarter x = Given.classes(2);
        x.act(0, 0, 1, 0);
        x.act(0, 2, 0, 1);
        x.act(0, 0, 0, 0);
        x.act(0, 5, 5, 0);
        x.plan(0, 0, 0);
        due.steps(x, 0, 3);
        due.is("class 1 is done", x.state(1), 1);
        due.steps(x, 0, 2);
        due.is("a copy and a use, a step each", x.count(2), 0);
        due.steps(x, 0, 1);
        due.is("the part behind them", x.logged(0), 5);
    }

    private static void copyThatUsesNoClass() {
        due.by(6, "A 2 that uses no class just copies.");
        ClassStarter x = new ClassStarter();
        x.declare(-1, false, true, -4);
        x.declare(-1, false, false, 0);
        x.act(1, 2, 1, 0);
        x.act(1, 5, 2, 0);
        x.plan(0, 0, 1);
        due.steps(x, 0, 2);
        due.is("copied in one step", x.statics(1, 0), -4);
        due.steps(x, 0, 1);
        due.is("the next part", x.logged(0), 2);
        due.is("the class is new", x.state(0), 0);
    }

    private static void rightBehindAGuard() {
        due.by(13, "if the PART at which it stands is an action right behind a 6, the fault is dropped, its number LOGGED, and it stands at the next PART");
        ClassStarter x = Given.classes(1);
        x.act(0, 6, 0, 0);
        x.act(0, 3, 5, 0);
        x.act(0, 5, 70, 0);
        x.act(0, 4, 6, 0);
        x.plan(0, 6, 0);
        x.plan(0, 0, 0);
        x.plan(0, 5, 71);
        due.steps(x, 0, 4);
        due.is("logged", x.logged(0), 5);
        due.is("dropped: the class is busy", x.state(0), 4);
        due.steps(x, 0, 1);
        due.is("at the next part of the class", x.logged(1), 70);
        due.steps(x, 0, 2);
        due.is("two behind the guard it is not dropped", x.state(0), 2);
        due.is("right behind the plan's it is", x.logged(2), 6);
        due.steps(x, 0, 1);
        due.is("at the next part of the plan", x.logged(3), 71);
        due.is("ended", x.result(0), 0);
    }

    private static void useAheadIsNotGuarded() {
        due.by(6, "if the PART at which it stands is an action");
        ClassStarter x = new ClassStarter();
        x.declare(-1, true, false, 0);
        x.act(0, 3, 4, 0);
        x.declare(-1, false, false, 0);
        x.act(1, 6, 0, 0);
        x.act(1, 5, 1, 0);
        x.inherit(1, 0, true);
        x.plan(0, 0, 1);
        due.steps(x, 0, 5);
        due.is("the interface's fault goes on", x.result(0), 35);
        due.is("logged", x.count(2), 0);
        due.is("failed", x.state(1), 2);
    }

    private static void useAheadGuardsNothing() {
        due.by(6, "an action right behind a 6");
        ClassStarter x = new ClassStarter();
        x.declare(-1, true, false, 0);
        x.act(0, 6, 0, 0);
        x.declare(-1, false, false, 0);
        x.act(1, 4, 3, 0);
        x.inherit(1, 0, true);
        x.plan(0, 0, 1);
        due.steps(x, 0, 6);
        due.is("the first action behind a use ahead", x.result(0), 14);
        due.is("logged", x.count(2), 0);
    }

    private static void endsWithItInAPlan() {
        due.by(10, "else if it is a PLAN the thread ENDS with it");
        ClassStarter x = new ClassStarter();
        x.plan(0, 0, 7);
        x.plan(0, 5, 1);
        due.steps(x, 0, 1);
        due.is("a plan ends at once", x.result(0), 21);
        due.is("the rest is not reached", x.step(0), -1);
        due.is("nothing is logged", x.count(2), 0);
        due.is("the others have ended without", x.result(1), 0);
    }

    private static void pendingInAClass() {
        due.by(10, "else it is PENDING.");
        ClassStarter x = Given.classes(1);
        x.act(0, 0, 7, 0);
        x.plan(1, 0, 0);
        due.steps(x, 1, 2);
        due.is("a class has it pending", x.result(1), -1);
        due.is("busy yet", x.state(0), 5);
        due.steps(x, 1, 1);
        due.is("then the plan ends", x.result(1), 21);
    }

    private static void endsWithNoStepMore() {
        due.by(10, "A thread ENDS, too, when its PLAN stands behind its last PART (with no step more");
        ClassStarter x = Given.classes(1);
        x.plan(0, 0, 0);
        due.steps(x, 0, 1);
        due.is("not before", x.result(0), -1);
        due.steps(x, 0, 1);
        due.is("the step that ends the class ends the thread", x.result(0), 0);
        due.is("no step more", x.step(0), -1);
        x.reset();
        x.plan(0, 6, 0);
        x.plan(0, 0, 7);
        due.steps(x, 0, 4);
        due.is("the step that drops its last fault, too", x.result(0), 0);
    }

    private static void emptyPlanHasEnded() {
        due.by(10, "with an empty PLAN from the start");
        ClassStarter x = new ClassStarter();
        x.plan(1, 5, 1);
        due.is("an empty plan", x.result(0), 0);
        due.is("another", x.result(2), 0);
        due.is("one that has an action", x.result(1), -1);
        due.is("no step of it", x.step(0), -1);
        due.is("not begun by that", x.count(5), 0);
    }

    private static ClassStarter circle() {
        ClassStarter x = Given.classes(2);
        for (int c = 0; c <= 1; c++) {
            x.act(c, 0, 1 - c, 0);
            x.plan(c, 0, c);
        }
        return x;
    }

    private static void stuckIfNoThreadCanStep() {
        due.by(10, "A thread is STUCK if it WAITS and no thread can make a STEP.");
        ClassStarter x = circle();
        due.steps(x, 0, 1);
        due.is("it does not wait", x.result(0), -1);
        due.steps(x, 1, 1);
        due.is("both wait", 10 * x.waitsFor(0) + x.waitsFor(1), 10);
        due.is("both are stuck", 100 * x.result(0) + x.result(1), 5050);
        due.is("one that has ended is not", x.result(2), 0);
    }

    private static void waitingIsNotYetStuck() {
        due.by(10, "A thread is STUCK if it WAITS and no thread can make a STEP.");
        ClassStarter x = circle();
        x.plan(2, 5, 1);
        due.steps(x, 0, 1);
        due.steps(x, 1, 1);
        due.is("they wait", 10 * x.waitsFor(0) + x.waitsFor(1), 10);
        for (int t = 0; t <= 2; t++) {
            due.is("the third can make a step: " + t, x.result(t), -1);
        }
        due.steps(x, 2, 1);
        due.is("now none can", 100 * x.result(0) + x.result(1), 5050);
    }

    private static void eachResult() {
        due.by(10, "The RESULT of a thread: 0 ENDED without fault, 11 + n ENDED with error n, 21 MISSING, 22 BROKEN, 31 + n INIT n; 50 STUCK; -1 none of these.");
        int[][] actionsAndResults = {{5, 0, 0}, {4, 0, 11}, {4, 9, 20}, {0, 7, 21}, {0, 1, 22}, {3, 0, 31}, {3, 9, 40}};
        for (int[] row : actionsAndResults) {
            ClassStarter x = Given.classes(2);
            x.act(0, row[0], row[1], 0);
            x.act(1, 4, 0, 0);
            x.plan(0, 6, 0);
            x.plan(0, 0, 1);
            x.plan(0, 0, 0);
            for (int k = 0; k < 7; k++) {
                due.is("none of these yet", x.result(0), -1);
                due.steps(x, 0, 1);
            }
            due.is("action " + row[0] + " with " + row[1], x.result(0), row[2]);
        }
        ClassStarter x = circle();
        due.steps(x, 1, 1);
        due.is("none of these", x.result(1), -1);
        due.steps(x, 0, 1);
        due.is("stuck", x.result(1), 50);
    }

    /** RefusedTest has it for every call of the face. */
    private static void refusedChangesNothing() {
        due.by(1, "A refused call changes nothing.");
        ClassStarter x = circle();
        x.explore();
        due.steps(x, 0, 1);
        String before = Picture.of(x);
        due.is("declare", x.declare(-1, false, false, 0), -1);
        due.is("inherit", x.inherit(1, 0, true), -1);
        due.is("act", x.act(0, 5, 1, 0), -1);
        due.is("plan", x.plan(2, 5, 1), -1);
        due.is("step of one that has ended", x.step(2), -1);
        due.is("step of none", x.step(3), -1);
        due.same("the object", Picture.of(x), before);
    }
}
