/** The boundaries that the document names outside the promises, in what it is and in its terms, by sentence. */
public final class TermsTest {
    private static final int MIN = Integer.MIN_VALUE;
    private static final int MAX = Integer.MAX_VALUE;
    private static final Due due = new Due("Terms");

    public static void main(String[] args) {
        fiveHundredAndTwelveCalls();
        fiveHundredAndTwelveCallsWithExplore();
        declaredInThisOrder();
        interfaceHasNoSuperclass();
        plansHaveThreeKindsAlone();
        leastAndGreatestFaults();
        emptyInitialiser();
        fullInitialiser();
        everythingFull();
        interfaceHasJustItsActions();
        superclassThenInterfacesThenActions();
        useOfTheFirstAndTheLast();
        copyOfEachStatic();
        constantCopyIsNoUse();
        constantOfAnInterface();
        copyOfTheOwnStatics();
        guardIsTheLastAction();
        guardReachesTheNextOnly();
        guardBehindGuard();
        guardOfASoundAction();
        guardedThreadGoesOn();
        useAheadIsNotGuarded();
        useAheadGuardsNothing();
        pendingGoesFirst();
        behindTheLastPart();
        newOneGetsAFrame();
        copyThatUsesNoClass();
        endsOrPending();
        doneOrBusyByThisThread();
        failedIsBrokenOnly();
        exceptionBecomesInitOnce();
        otherFaultsStay();
        faultInTheDeepestFrame();
        endsWithNoStepMore();
        due.end();
    }

    private static void steps(ClassStarter x, int t, int times) {
        for (int k = 0; k < times; k++) {
            due.is("step(" + t + ")", x.step(t), 1);
        }
    }

    private static ClassStarter classes(int count) {
        ClassStarter x = new ClassStarter();
        for (int c = 0; c < count; c++) {
            x.declare(-1, false, false, 0);
        }
        return x;
    }

    private static void fiveHundredAndTwelveCalls() {
        due.by(1, "An object is used for at most 512 calls after it has been made");
        ClassStarter x = new ClassStarter();
        x.declare(-1, false, false, 0);
        x.act(0, 5, 3, 0);
        x.plan(0, 0, 0);
        int calls = 3;
        while (calls + 5 <= 512) {
            steps(x, 0, 3);
            due.is("logged(0)", x.logged(0), 3);
            due.is("reset()", x.reset(), 3);
            calls += 5;
        }
        while (calls < 512) {
            due.is("count(0)", x.count(0), 1);
            calls++;
        }
    }

    /** It explores 1680 orders and steps by turns until its calls are used up. */
    private static void fiveHundredAndTwelveCallsWithExplore() {
        due.by(14, "An object is used for at most 512 calls after it has been made");
        ClassStarter x = new ClassStarter();
        for (int k = 0; k < 3; k++) {
            x.plan(0, 5, 1);
            x.plan(1, 5, 2);
            x.plan(2, 5, 3);
        }
        for (int calls = 9; calls + 3 <= 512; calls += 3) {
            due.is("step", x.step(calls % 3), 1);
            due.is("explore()", x.explore(), 1);
            due.is("reset()", x.reset(), 1);
        }
    }

    private static void declaredInThisOrder() {
        due.by(2, "CLASSES 0 .. 7 are declared in this order.");
        ClassStarter x = new ClassStarter();
        for (int c = 0; c <= 7; c++) {
            due.is("not there before", x.state(c), -1);
            due.is("its number", x.declare(c % 2 == 0 ? -1 : c - 1, false, true, 70 + c), c);
            due.is("its constant", x.statics(c, 1), 70 + c);
        }
        due.is("no number 8", x.declare(-1, false, false, 0), -2);
    }

    private static void interfaceHasNoSuperclass() {
        due.by(2, "An interface has no superclass");
        ClassStarter x = classes(1);
        due.is("with one", x.declare(0, true, false, 0), -1);
        due.is("without", x.declare(-1, true, false, 0), 1);
        x.plan(0, 0, 1);
        steps(x, 0, 2);
        due.is("it uses none", x.state(0), 0);
    }

    private static void plansHaveThreeKindsAlone() {
        due.by(5, "a PLAN of at most 3 actions (0, 5 and 6 alone)");
        ClassStarter x = classes(1);
        for (int action = 1; action <= 4; action++) {
            due.is("plan(0, " + action + ", 0)", x.plan(0, action, 0), -1);
        }
        due.is("plan(0, 0, 0)", x.plan(0, 0, 0), 1);
        due.is("plan(0, 5, 0)", x.plan(0, 5, 0), 2);
        due.is("plan(0, 6, 0)", x.plan(0, 6, 0), 3);
        due.is("a fourth", x.plan(0, 6, 0), -2);
    }

    private static void leastAndGreatestFaults() {
        due.by(4, "3 RAISE an exception with number a (0 .. 9). 4 RAISE an error with number a (0 .. 9).");
        int[][] actionsAndResults = {{3, 0, 31}, {3, 9, 40}, {4, 0, 11}, {4, 9, 20}};
        for (int[] row : actionsAndResults) {
            ClassStarter x = classes(1);
            due.is("act(0, " + row[0] + ", " + row[1] + ", 0)", x.act(0, row[0], row[1], 0), 1);
            due.is("one less than the least", x.act(0, row[0], -1, 0), -1);
            due.is("one more than the greatest", x.act(0, row[0], 10, 0), -1);
            x.plan(0, 0, 0);
            steps(x, 0, 3);
            due.is("result(0)", x.result(0), row[2]);
        }
    }

    private static void emptyInitialiser() {
        due.by(6, "It stands at a PART, the first one when it begins, or behind the last.");
        ClassStarter x = classes(1);
        x.plan(0, 0, 0);
        steps(x, 0, 1);
        due.is("behind the last from its beginning", x.inside(0), 0);
        steps(x, 0, 1);
        due.is("done", x.state(0), 1);
        due.is("ended", x.result(0), 0);
    }

    private static void fullInitialiser() {
        due.by(4, "an INITIALISER of at most 5 actions");
        ClassStarter x = classes(1);
        for (int k = 0; k < 5; k++) {
            x.act(0, 1, 0, 10 + k);
        }
        x.plan(0, 0, 0);
        steps(x, 0, 1);
        for (int k = 0; k < 5; k++) {
            steps(x, 0, 1);
            due.is("put by action " + k, x.statics(0, 0), 10 + k);
        }
        due.is("busy yet", x.state(0), 4);
        steps(x, 0, 1);
        due.is("done", x.state(0), 1);
    }

    /** All classes with all that they can have, in one chain; all plans full: no row may be too short. */
    private static void everythingFull() {
        due.by(6, "CLASSES 0 .. 7 .. THREADS 0 .. 2 each have a PLAN of at most 3 actions");
        ClassStarter x = new ClassStarter();
        for (int c = 0; c <= 7; c++) {
            x.declare(c < 3 ? -1 : c - 1, c < 2, false, 0);
            if (c >= 2) {
                x.inherit(c, 0, true);
                x.inherit(c, 1, true);
            }
            for (int k = 0; k < 5; k++) {
                x.act(c, 5, 10 * c + k, 0);
            }
        }
        x.plan(0, 0, 7);
        for (int k = 0; k < 3; k++) {
            x.plan(0, 5, 100 + k);
            x.plan(1, 5, 200 + k);
            x.plan(2, 5, 300 + k);
        }
        steps(x, 0, 68);
        steps(x, 1, 3);
        steps(x, 2, 3);
        for (int t = 0; t <= 2; t++) {
            due.is("ended: " + t, x.result(t), 0);
        }
        for (int c = 0; c <= 7; c++) {
            due.is("done: " + c, x.state(c), 1);
        }
        due.is("logged", x.count(2), 48);
        due.is("logged last of the classes", x.logged(39), 74);
        due.is("logged last", x.logged(47), 302);
    }

    private static void interfaceHasJustItsActions() {
        due.by(6, "(for an interface just its actions)");
        ClassStarter x = new ClassStarter();
        x.declare(-1, true, false, 0);
        x.declare(-1, true, false, 0);
        x.act(1, 5, 4, 0);
        x.plan(0, 0, 1);
        steps(x, 0, 2);
        due.is("its first part is its first action", x.logged(0), 4);
        steps(x, 0, 1);
        due.is("ended", x.result(0), 0);
        due.is("no other was used", x.state(0), 0);
    }

    private static void superclassThenInterfacesThenActions() {
        due.by(3, "a use of its superclass, if it has one, then of its DEFAULTED interfaces in order, then its actions in order");
        ClassStarter x = new ClassStarter();
        for (int c = 0; c <= 2; c++) {
            x.declare(-1, c < 2, false, 0);
            x.act(c, 5, c, 0);
        }
        x.declare(2, false, false, 0);
        x.act(3, 5, 30, 0);
        x.inherit(3, 1, true);
        x.act(3, 5, 31, 0);
        x.act(3, 1, 0, 7);
        x.inherit(3, 0, true);
        x.plan(0, 0, 3);
        steps(x, 0, 14);
        due.is("ended", x.result(0), 0);
        due.is("put", x.statics(3, 0), 7);
        long[] log = {2, 1, 0, 30, 31};
        for (int k = 0; k < log.length; k++) {
            due.is("logged(" + k + ")", x.logged(k), log[k]);
        }
    }

    private static void useOfTheFirstAndTheLast() {
        due.by(4, "0 USE class a (0 .. 7).");
        ClassStarter x = classes(8);
        x.act(3, 0, 0, 0);
        x.act(3, 0, 7, 0);
        x.plan(1, 0, 3);
        steps(x, 1, 2);
        due.is("the first", x.inside(1), 0);
        steps(x, 1, 2);
        due.is("the last", x.inside(1), 7);
        steps(x, 1, 2);
        due.is("ended", x.result(1), 0);
    }

    private static void copyOfEachStatic() {
        due.by(9, "2 COPY static a (0, 1) of class b to static 0 of the own class");
        ClassStarter x = new ClassStarter();
        x.declare(-1, false, true, MAX);
        x.act(0, 1, 0, MIN);
        for (int c = 1; c <= 2; c++) {
            x.declare(-1, false, false, 0);
            x.act(c, 2, c - 1, 0);
            x.plan(0, 0, c);
        }
        steps(x, 0, 3);
        due.is("not copied before it is made", x.statics(1, 0), 0);
        steps(x, 0, 1);
        due.is("static 0", x.statics(1, 0), MIN);
        steps(x, 0, 3);
        due.is("static 1", x.statics(2, 0), MAX);
        due.is("static 1 of the own class stays", x.statics(2, 1), 0);
    }

    private static void constantCopyIsNoUse() {
        due.by(2, "a use of class b, but none if a is 1 and class b has it CONSTANT");
        ClassStarter x = new ClassStarter();
        x.declare(-1, false, true, 5);
        x.act(0, 4, 0, 0);
        x.declare(-1, false, false, 0);
        x.act(1, 2, 1, 0);
        x.plan(0, 0, 0);
        x.plan(1, 0, 1);
        steps(x, 1, 2);
        due.is("copied from one that is new", x.statics(1, 0), 5);
        due.is("new yet", x.state(0), 0);
        x.reset();
        steps(x, 0, 1);
        steps(x, 1, 2);
        due.is("copied from one that is busy", x.statics(1, 0), 5);
        x.reset();
        steps(x, 0, 3);
        steps(x, 1, 2);
        due.is("copied from one that failed", x.statics(1, 0), 5);
        due.is("no fault", x.inside(1), 1);
    }

    private static void constantOfAnInterface() {
        due.by(2, "a use of class b, but none if a is 1 and class b has it CONSTANT");
        ClassStarter x = new ClassStarter();
        x.declare(-1, true, true, 5);
        x.declare(-1, false, false, 0);
        x.act(1, 2, 1, 0);
        x.act(1, 2, 0, 0);
        x.plan(0, 0, 1);
        steps(x, 0, 2);
        due.is("copied", x.statics(1, 0), 5);
        due.is("new yet", x.state(0), 0);
        steps(x, 0, 1);
        due.is("static 0 is a use", x.state(0), 4);
    }

    private static void copyOfTheOwnStatics() {
        due.by(9, "BUSY by this thread: MADE .. MADE: for 2 the static is copied");
        ClassStarter x = new ClassStarter();
        x.declare(-1, false, true, 6);
        x.act(0, 1, 0, 4);
        x.act(0, 2, 0, 0);
        x.act(0, 2, 1, 0);
        x.plan(0, 0, 0);
        steps(x, 0, 3);
        due.is("static 0 to itself", x.statics(0, 0), 4);
        steps(x, 0, 1);
        due.is("static 1 to static 0", x.statics(0, 0), 6);
        steps(x, 0, 1);
        due.is("ended", x.result(0), 0);
    }

    private static void guardIsTheLastAction() {
        due.by(6, "6 GUARD: a fault of the next action is dropped");
        ClassStarter x = classes(2);
        x.act(0, 6, 0, 0);
        x.act(1, 0, 0, 0);
        x.act(1, 3, 2, 0);
        x.plan(0, 0, 1);
        x.plan(1, 6, 0);
        steps(x, 1, 1);
        due.is("last in a plan", x.result(1), 0);
        steps(x, 0, 4);
        due.is("last in a class", x.state(0), 1);
        steps(x, 0, 2);
        due.is("it guards nothing beyond its class", x.result(0), 33);
        due.is("logged", x.count(2), 0);
    }

    private static void guardReachesTheNextOnly() {
        due.by(6, "if the PART at which it stands is an action right behind a 6");
        ClassStarter x = classes(1);
        x.act(0, 6, 0, 0);
        x.act(0, 5, 1, 0);
        x.act(0, 4, 2, 0);
        x.plan(0, 0, 0);
        steps(x, 0, 5);
        due.is("two behind a guard", x.result(0), 13);
        x.reset();
        x.plan(1, 6, 0);
        x.plan(1, 6, 0);
        x.plan(1, 0, 0);
        steps(x, 1, 7);
        due.is("right behind one", x.result(1), 0);
        due.is("logged", x.logged(1), 2);
    }

    private static void guardBehindGuard() {
        due.by(6, "if the PART at which it stands is an action right behind a 6");
        ClassStarter x = classes(1);
        x.act(0, 6, 0, 0);
        x.act(0, 6, 0, 0);
        x.act(0, 3, 1, 0);
        x.act(0, 3, 2, 0);
        x.plan(0, 0, 0);
        steps(x, 0, 6);
        due.is("the first is dropped, the second is not", x.result(0), 33);
        due.is("logged(0)", x.logged(0), 1);
        due.is("logged", x.count(2), 1);
    }

    private static void guardOfASoundAction() {
        due.by(6, "6 GUARD: a fault of the next action is dropped");
        ClassStarter x = classes(1);
        x.plan(0, 6, 0);
        x.plan(0, 0, 0);
        x.plan(0, 0, 7);
        steps(x, 0, 4);
        due.is("no fault, and the next one is not guarded", x.result(0), 21);
        due.is("logged", x.count(2), 0);
    }

    private static void guardedThreadGoesOn() {
        due.by(13, "the fault is dropped, its number LOGGED, and it stands at the next PART");
        ClassStarter x = classes(1);
        x.act(0, 6, 0, 0);
        x.act(0, 4, 9, 0);
        x.act(0, 1, 0, 7);
        x.plan(0, 0, 0);
        steps(x, 0, 3);
        due.is("dropped in the same step", x.logged(0), 9);
        due.is("busy yet", x.state(0), 4);
        steps(x, 0, 1);
        due.is("the next part", x.statics(0, 0), 7);
    }

    private static void useAheadIsNotGuarded() {
        due.by(6, "if the PART at which it stands is an action");
        ClassStarter x = new ClassStarter();
        x.declare(-1, true, false, 0);
        x.act(0, 3, 4, 0);
        x.declare(-1, false, false, 0);
        x.act(1, 6, 0, 0);
        x.act(1, 5, 1, 0);
        x.inherit(1, 0, true);
        x.plan(0, 0, 1);
        steps(x, 0, 5);
        due.is("the interface's fault goes on", x.result(0), 35);
        due.is("logged", x.count(2), 0);
        due.is("failed", x.state(1), 2);
    }

    private static void useAheadGuardsNothing() {
        due.by(6, "an action right behind a 6");
        ClassStarter x = new ClassStarter();
        x.declare(-1, true, false, 0);
        x.act(0, 6, 0, 0);
        x.declare(-1, false, false, 0);
        x.act(1, 4, 3, 0);
        x.inherit(1, 0, true);
        x.plan(0, 0, 1);
        steps(x, 0, 6);
        due.is("the first action behind a use ahead", x.result(0), 14);
        due.is("logged", x.count(2), 0);
    }

    private static void pendingGoesFirst() {
        due.by(6, "There is a PENDING fault: its class is FAILED and the FRAME goes.");
        ClassStarter x = classes(2);
        x.act(0, 0, 1, 0);
        x.act(1, 4, 0, 0);
        x.plan(0, 0, 0);
        x.plan(1, 0, 1);
        steps(x, 0, 3);
        due.is("pending in class 1", x.state(1), 4);
        due.is("the other waits", x.step(1), 0);
        steps(x, 0, 1);
        due.is("class 1 failed", x.state(1), 2);
        due.is("pending in class 0", x.state(0), 4);
        steps(x, 0, 1);
        due.is("class 0 failed", x.state(0), 2);
        due.is("ended", x.result(0), 11);
    }

    private static void behindTheLastPart() {
        due.by(6, "It stands behind its last PART (of a class): the class is DONE and the FRAME goes; the use at which the FRAME on top now stands is MADE.");
        ClassStarter x = classes(2);
        x.act(0, 2, 0, 1);
        x.act(1, 1, 0, 8);
        x.plan(0, 0, 0);
        steps(x, 0, 3);
        due.is("behind the last part, busy yet", x.state(1), 4);
        due.is("the use is not made yet", x.statics(0, 0), 0);
        steps(x, 0, 1);
        due.is("done", x.state(1), 1);
        due.is("the frame is gone", x.inside(0), 0);
        due.is("the use is made", x.statics(0, 0), 8);
    }

    private static void newOneGetsAFrame() {
        due.by(6, "NEW: it is BUSY by this thread and a new FRAME of it is on top.");
        for (int t = 0; t <= 2; t++) {
            ClassStarter x = classes(2);
            x.act(1, 5, 3, 0);
            x.plan(t, 0, 1);
            steps(x, t, 1);
            due.is("busy", x.state(1), 4 + t);
            due.is("on top", x.inside(t), 1);
            due.is("nothing of it is done yet", x.count(2), 0);
            due.is("the other is new", x.state(0), 0);
        }
    }

    private static void copyThatUsesNoClass() {
        due.by(6, "A 2 that uses no class just copies.");
        ClassStarter x = new ClassStarter();
        x.declare(-1, false, true, -4);
        x.declare(-1, false, false, 0);
        x.act(1, 2, 1, 0);
        x.act(1, 5, 2, 0);
        x.plan(0, 0, 1);
        steps(x, 0, 2);
        due.is("copied in one step", x.statics(1, 0), -4);
        steps(x, 0, 1);
        due.is("the next part", x.logged(0), 2);
        due.is("the class is new", x.state(0), 0);
    }

    private static void endsOrPending() {
        due.by(10, "else if it is a PLAN the thread ENDS with it; else it is PENDING.");
        ClassStarter x = classes(1);
        x.act(0, 0, 7, 0);
        x.plan(0, 0, 7);
        x.plan(0, 5, 1);
        x.plan(1, 0, 0);
        steps(x, 0, 1);
        due.is("a plan ends at once", x.result(0), 21);
        due.is("the rest is not reached", x.step(0), -1);
        steps(x, 1, 2);
        due.is("a class has it pending", x.result(1), -1);
        due.is("busy yet", x.state(0), 5);
        steps(x, 1, 1);
        due.is("then the plan ends", x.result(1), 21);
    }

    private static void doneOrBusyByThisThread() {
        due.by(6, "one that is DONE, or BUSY by this thread: MADE");
        ClassStarter x = classes(2);
        x.act(0, 0, 1, 0);
        x.act(1, 0, 0, 0);
        x.plan(0, 0, 0);
        x.plan(0, 0, 1);
        steps(x, 0, 3);
        due.is("class 0 is busy by this thread", x.inside(0), 1);
        steps(x, 0, 2);
        due.is("both are done", 10 * x.state(0) + x.state(1), 11);
        steps(x, 0, 1);
        due.is("ended", x.result(0), 0);
    }

    private static void failedIsBrokenOnly() {
        due.by(10, "FAILED: BROKEN COMES");
        ClassStarter x = classes(1);
        x.act(0, 4, 3, 0);
        for (int t = 0; t <= 2; t++) {
            x.plan(t, 6, 0);
            x.plan(t, 0, 0);
            x.plan(t, 0, 0);
        }
        steps(x, 0, 4);
        due.is("the fault itself, once", x.logged(0), 3);
        steps(x, 0, 1);
        due.is("broken", x.result(0), 22);
        steps(x, 1, 2);
        due.is("broken, guarded", x.logged(1), -2);
        steps(x, 1, 1);
        due.is("broken", x.result(1), 22);
    }

    private static void exceptionBecomesInitOnce() {
        due.by(13, "An exception n becomes INIT n.");
        ClassStarter x = new ClassStarter();
        for (int c = 0; c <= 7; c++) {
            x.declare(c - 1, false, false, 0);
        }
        x.act(0, 3, 9, 0);
        x.plan(0, 6, 0);
        x.plan(0, 0, 7);
        steps(x, 0, 18);
        due.is("through eight classes", x.logged(0), 109);
        due.is("ended", x.result(0), 0);
    }

    private static void otherFaultsStay() {
        due.by(10, "An exception n becomes INIT n. The fault COMES to the FRAME that is on top now.");
        int[][] actionsAndResults = {{4, 0, 11}, {4, 9, 20}, {0, 7, 21}};
        for (int[] row : actionsAndResults) {
            ClassStarter x = new ClassStarter();
            for (int c = 0; c <= 2; c++) {
                x.declare(c - 1, false, false, 0);
            }
            x.act(0, row[0], row[1], 0);
            x.plan(0, 0, 2);
            x.plan(1, 0, 1);
            steps(x, 0, 7);
            due.is("through three classes", x.result(0), row[2]);
            steps(x, 1, 1);
            due.is("broken", x.result(1), 22);
        }
    }

    private static void faultInTheDeepestFrame() {
        due.by(11, "A thread has a stack of FRAMES");
        ClassStarter x = classes(8);
        for (int c = 0; c <= 6; c++) {
            x.act(c, 0, c + 1, 0);
        }
        x.act(7, 4, 5, 0);
        x.plan(2, 0, 0);
        steps(x, 2, 9);
        for (int c = 7; c >= 0; c--) {
            due.is("inside", x.inside(2), c);
            due.is("busy", x.state(c), 6);
            steps(x, 2, 1);
            due.is("failed", x.state(c), 2);
        }
        due.is("ended", x.result(2), 16);
    }

    private static void endsWithNoStepMore() {
        due.by(10, "(with no step more; with an empty PLAN from the start)");
        ClassStarter x = classes(1);
        x.plan(0, 0, 0);
        due.is("an empty plan", x.result(1), 0);
        steps(x, 0, 2);
        due.is("the step that ends the class ends the thread", x.result(0), 0);
        due.is("no step more", x.step(0), -1);
    }
}
