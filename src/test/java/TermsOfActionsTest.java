/** What the document's terms say of actions, faults and plans: each sentence, with its boundaries. */
public final class TermsOfActionsTest {
    private static final int MIN = Integer.MIN_VALUE;
    private static final int MAX = Integer.MAX_VALUE;
    private static final Due due = new Due("Terms of actions");

    public static void main(String[] args) {
        useOfTheFirstAndTheLast();
        useOutOfRange();
        putIntoTheOwnClass();
        copyOfEachStatic();
        copyOutOfRange();
        constantCopyIsNoUse();
        constantOfAnInterface();
        copyIsAUseElse();
        copyOfTheOwnStatics();
        exceptionsOfEachNumber();
        errorsOfEachNumber();
        numbersOutOfRange();
        logOfTheInt();
        guardIsTheLastAction();
        guardReachesTheNextOnly();
        guardBehindGuard();
        guardOfASoundAction();
        guardedThreadGoesOn();
        numbersThatAreLogged();
        raisedInsideAndOutside();
        missingIsAFault();
        brokenOnlyIfFailedBefore();
        initOnlyOfExceptions();
        plansHaveThreeKindsAlone();
        threeThreads();
        plansAreFullAtThree();
        due.end();
    }

    private static void useOfTheFirstAndTheLast() {
        due.by(4, "0 USE class a (0 .. 7).");
        ClassStarter x = Given.classes(8);
        x.act(3, 0, 0, 0);
        x.act(3, 0, 7, 0);
        x.plan(1, 0, 3);
        due.steps(x, 1, 2);
        due.is("the first", x.inside(1), 0);
        due.steps(x, 1, 2);
        due.is("the last", x.inside(1), 7);
        due.steps(x, 1, 2);
        due.is("ended", x.result(1), 0);
    }

    private static void useOutOfRange() {
        due.by(4, "0 USE class a (0 .. 7).");
        ClassStarter x = Given.classes(8);
        int[] wrong = {MIN, -1, 8, 9, MAX};
        for (int a : wrong) {
            due.is("act(0, 0, " + a + ", 0)", x.act(0, 0, a, 0), -1);
            due.is("plan(0, 0, " + a + ")", x.plan(0, 0, a), -1);
        }
    }

    private static void putIntoTheOwnClass() {
        due.by(9, "1 PUT the int b into static 0 of the own class.");
        int[] ints = {MIN, -1, 0, 1, MAX};
        for (int b : ints) {
            ClassStarter x = new ClassStarter();
            for (int c = 0; c <= 2; c++) {
                x.declare(c - 1, false, true, 40 + c);
                x.act(c, 1, 99, 20 + c);
            }
            x.act(1, 1, 7, b);
            x.plan(0, 0, 2);
            due.steps(x, 0, 7);
            due.is("put", x.statics(1, 0), b);
            due.is("the superclass has its own", x.statics(0, 0), 20);
            due.is("another class has not", x.statics(2, 0), 0);
            for (int c = 0; c <= 2; c++) {
                due.is("static 1 stays", x.statics(c, 1), 40 + c);
            }
        }
    }

    private static void copyOfEachStatic() {
        due.by(9, "2 COPY static a (0, 1) of class b to static 0 of the own class");
        ClassStarter x = new ClassStarter();
        x.declare(-1, false, true, MAX);
        x.act(0, 1, 0, MIN);
        for (int c = 1; c <= 2; c++) {
            x.declare(-1, false, false, 0);
            x.act(c, 2, c - 1, 0);
            x.plan(0, 0, c);
        }
        due.steps(x, 0, 3);
        due.is("not copied before it is made", x.statics(1, 0), 0);
        due.steps(x, 0, 1);
        due.is("static 0", x.statics(1, 0), MIN);
        due.steps(x, 0, 3);
        due.is("static 1", x.statics(2, 0), MAX);
        due.is("static 1 of the own class stays", x.statics(2, 1), 0);
        due.is("class b keeps its own", x.statics(0, 0), MIN);
    }

    private static void copyOutOfRange() {
        due.by(4, "2 COPY static a (0, 1) of class b to static 0 of the own class");
        ClassStarter x = Given.classes(8);
        int[] wrongStatics = {MIN, -1, 2, MAX};
        int[] wrongClasses = {MIN, -1, 8, MAX};
        for (int k = 0; k < 4; k++) {
            due.is("static " + wrongStatics[k], x.act(0, 2, wrongStatics[k], 0), -1);
            due.is("class " + wrongClasses[k], x.act(0, 2, 0, wrongClasses[k]), -1);
        }
        due.is("the least", x.act(0, 2, 0, 0), 1);
        due.is("the greatest", x.act(0, 2, 1, 7), 2);
    }

    private static void constantCopyIsNoUse() {
        due.by(2, "a use of class b, but none if a is 1 and class b has it CONSTANT");
        ClassStarter x = new ClassStarter();
        x.declare(-1, false, true, 5);
        x.act(0, 4, 0, 0);
        x.declare(-1, false, false, 0);
        x.act(1, 2, 1, 0);
        x.plan(0, 0, 0);
        x.plan(1, 0, 1);
        due.steps(x, 1, 2);
        due.is("copied from one that is new", x.statics(1, 0), 5);
        due.is("new yet", x.state(0), 0);
        x.reset();
        due.steps(x, 0, 1);
        due.steps(x, 1, 2);
        due.is("copied from one that is busy", x.statics(1, 0), 5);
        x.reset();
        due.steps(x, 0, 3);
        due.steps(x, 1, 2);
        due.is("copied from one that failed", x.statics(1, 0), 5);
        due.is("no fault", x.inside(1), 1);
    }

    private static void constantOfAnInterface() {
        due.by(2, "a use of class b, but none if a is 1 and class b has it CONSTANT");
        ClassStarter x = new ClassStarter();
        x.declare(-1, true, true, 5);
        x.declare(-1, false, false, 0);
        x.act(1, 2, 1, 0);
        x.act(1, 2, 0, 0);
        x.plan(0, 0, 1);
        due.steps(x, 0, 2);
        due.is("copied", x.statics(1, 0), 5);
        due.is("new yet", x.state(0), 0);
        due.steps(x, 0, 1);
        due.is("static 0 is a use", x.state(0), 4);
    }

    private static void copyIsAUseElse() {
        due.by(6, "a use of class b, but none if a is 1 and class b has it CONSTANT");
        for (int kinds = 0; kinds < 4; kinds++) {
            int a = kinds % 2;
            boolean constant = kinds / 2 == 1;
            ClassStarter x = new ClassStarter();
            x.declare(-1, false, constant, 5);
            x.act(0, 1, 0, 8);
            x.declare(-1, false, false, 0);
            x.act(1, 2, a, 0);
            x.plan(0, 0, 1);
            x.plan(1, 0, 0);
            due.steps(x, 1, 1);
            due.steps(x, 0, 1);
            boolean isUse = a == 0 || !constant;
            due.is("waits, kinds " + kinds, x.waitsFor(0), isUse ? 0 : -1);
            due.steps(x, 1, 2);
            due.steps(x, 0, 1);
            due.is("copied, kinds " + kinds, x.statics(1, 0), a == 0 ? 8 : constant ? 5 : 0);
        }
    }

    private static void copyOfTheOwnStatics() {
        due.by(9, "BUSY by this thread: MADE .. MADE: for 2 the static is copied");
        ClassStarter x = new ClassStarter();
        x.declare(-1, false, true, 6);
        x.act(0, 1, 0, 4);
        x.act(0, 2, 0, 0);
        x.act(0, 2, 1, 0);
        x.plan(0, 0, 0);
        due.steps(x, 0, 3);
        due.is("static 0 to itself", x.statics(0, 0), 4);
        due.steps(x, 0, 1);
        due.is("static 1 to static 0", x.statics(0, 0), 6);
        due.steps(x, 0, 1);
        due.is("ended", x.result(0), 0);
    }

    private static void exceptionsOfEachNumber() {
        due.by(10, "3 RAISE an exception with number a (0 .. 9).");
        for (int n = 0; n <= 9; n++) {
            due.is("exception " + n, resultOfRaised(3, n), 31 + n);
        }
    }

    private static void errorsOfEachNumber() {
        due.by(10, "4 RAISE an error with number a (0 .. 9).");
        for (int n = 0; n <= 9; n++) {
            due.is("error " + n, resultOfRaised(4, n), 11 + n);
        }
    }

    private static int resultOfRaised(int action, int n) {
        ClassStarter x = Given.classes(1);
        due.is("act", x.act(0, action, n, MIN), 1);
        x.plan(0, 0, 0);
        due.steps(x, 0, 3);
        return x.result(0);
    }

    private static void numbersOutOfRange() {
        due.by(4, "3 RAISE an exception with number a (0 .. 9). 4 RAISE an error with number a (0 .. 9).");
        ClassStarter x = Given.classes(1);
        int[] wrong = {MIN, -1, 10, 11, MAX};
        for (int n : wrong) {
            due.is("exception " + n, x.act(0, 3, n, 0), -1);
            due.is("error " + n, x.act(0, 4, n, 0), -1);
        }
    }

    private static void logOfTheInt() {
        due.by(13, "5 LOG the int a.");
        int[] ints = {MIN, -1, 0, 1, MAX};
        for (int a : ints) {
            ClassStarter x = Given.classes(1);
            x.act(0, 5, a, 77);
            x.plan(0, 5, a);
            x.plan(0, 0, 0);
            due.steps(x, 0, 1);
            due.is("logged by the plan", x.logged(0), a);
            due.is("one", x.count(2), 1);
            due.steps(x, 0, 2);
            due.is("logged by the class", x.logged(1), a);
            due.is("two", x.count(2), 2);
            due.is("no static changes", x.statics(0, 0), 0);
        }
    }

    private static void guardIsTheLastAction() {
        due.by(6, "6 GUARD: a fault of the next action is dropped");
        ClassStarter x = Given.classes(2);
        x.act(0, 6, 0, 0);
        x.act(1, 0, 0, 0);
        x.act(1, 3, 2, 0);
        x.plan(0, 0, 1);
        x.plan(1, 6, 0);
        due.steps(x, 1, 1);
        due.is("last in a plan", x.result(1), 0);
        due.steps(x, 0, 4);
        due.is("last in a class", x.state(0), 1);
        due.steps(x, 0, 2);
        due.is("it guards nothing beyond its class", x.result(0), 33);
        due.is("logged", x.count(2), 0);
    }

    private static void guardReachesTheNextOnly() {
        due.by(6, "6 GUARD: a fault of the next action is dropped");
        ClassStarter x = Given.classes(1);
        x.act(0, 6, 0, 0);
        x.act(0, 5, 1, 0);
        x.act(0, 4, 2, 0);
        x.plan(0, 0, 0);
        due.steps(x, 0, 5);
        due.is("two behind a guard", x.result(0), 13);
        x.reset();
        x.plan(1, 6, 0);
        x.plan(1, 6, 0);
        x.plan(1, 0, 0);
        due.steps(x, 1, 7);
        due.is("right behind one", x.result(1), 0);
        due.is("logged", x.logged(1), 2);
    }

    private static void guardBehindGuard() {
        due.by(6, "6 GUARD: a fault of the next action is dropped");
        ClassStarter x = Given.classes(1);
        x.act(0, 6, 0, 0);
        x.act(0, 6, 0, 0);
        x.act(0, 3, 1, 0);
        x.act(0, 3, 2, 0);
        x.plan(0, 0, 0);
        due.steps(x, 0, 6);
        due.is("the first is dropped, the second is not", x.result(0), 33);
        due.is("logged(0)", x.logged(0), 1);
        due.is("logged", x.count(2), 1);
    }

    private static void guardOfASoundAction() {
        due.by(6, "6 GUARD: a fault of the next action is dropped");
        ClassStarter x = Given.classes(1);
        x.plan(0, 6, 0);
        x.plan(0, 0, 0);
        x.plan(0, 0, 7);
        due.steps(x, 0, 4);
        due.is("no fault, and the next one is not guarded", x.result(0), 21);
        due.is("logged", x.count(2), 0);
    }

    private static void guardedThreadGoesOn() {
        due.by(13, "the fault is dropped, its number LOGGED, and it stands at the next PART");
        ClassStarter x = Given.classes(1);
        x.act(0, 6, 0, 0);
        x.act(0, 4, 9, 0);
        x.act(0, 1, 0, 7);
        x.plan(0, 0, 0);
        due.steps(x, 0, 3);
        due.is("dropped in the same step", x.logged(0), 9);
        due.is("busy yet", x.state(0), 4);
        due.steps(x, 0, 1);
        due.is("the next part", x.statics(0, 0), 7);
    }

    private static void numbersThatAreLogged() {
        due.by(13, "its number that is LOGGED then is n for an exception or error n, -1 for MISSING, -2 for BROKEN, 100 + n for INIT n");
        for (int n = 0; n <= 9; n++) {
            due.is("exception " + n, numberOf(3, n), n);
            due.is("error " + n, numberOf(4, n), n);
            due.is("init " + n, numberOfFailing(3, n), 100 + n);
            due.is("error " + n + " of a class used", numberOfFailing(4, n), n);
        }
        due.is("init 3 in a class", numberOf(0, 1), 103);
        due.is("error 5 in a class", numberOf(0, 2), 5);
        due.is("missing", numberOf(0, 7), -1);
        due.is("missing in a copy", numberOf(2, 1), -1);
        due.is("broken", numberOfFailing(0, 2), -2);
    }

    /** Class 0 guards one action; class 1 raises exception 3 and class 2 error 5. */
    private static long numberOf(int action, int a) {
        ClassStarter x = Given.classes(3);
        x.act(0, 6, 0, 0);
        x.act(0, action, a, 7);
        x.act(1, 3, 3, 0);
        x.act(2, 4, 5, 0);
        x.plan(2, 0, 0);
        due.steps(x, 2, action == 0 && a != 7 ? 5 : 3);
        due.is("one number", x.count(2), 1);
        return x.logged(0);
    }

    /** A plan guards its use of class 0, which has one action; class 2 has failed before. */
    private static long numberOfFailing(int action, int a) {
        ClassStarter x = Given.classes(3);
        x.act(0, action, a, 0);
        x.act(2, 4, 5, 0);
        x.plan(0, 0, 2);
        x.plan(1, 6, 0);
        x.plan(1, 0, 0);
        due.steps(x, 0, 3);
        due.steps(x, 1, 4);
        due.is("ended", x.result(1), 0);
        return x.logged(0);
    }

    private static void raisedInsideAndOutside() {
        due.by(13, "FAULTS: an exception n or an error n raised (0 .. 9)");
        int[] actions = {3, 4};
        for (int action : actions) {
            ClassStarter x = Given.classes(1);
            x.act(0, 6, 0, 0);
            x.act(0, action, 4, 0);
            x.act(0, action, 6, 0);
            x.plan(0, 6, 0);
            x.plan(0, 0, 0);
            due.steps(x, 0, 6);
            due.is("inside it is what was raised", x.logged(0), 4);
            due.is("outside an exception is another fault", x.logged(1), action == 3 ? 106 : 6);
        }
    }

    private static void missingIsAFault() {
        due.by(10, "FAULTS: .. MISSING");
        ClassStarter x = Given.classes(7);
        x.plan(0, 0, 7);
        due.steps(x, 0, 1);
        due.is("missing", x.result(0), 21);
        x.reset();
        due.is("declared now", x.declare(-1, false, false, 0), 7);
        due.steps(x, 0, 2);
        due.is("it is there", x.result(0), 0);
    }

    private static void brokenOnlyIfFailedBefore() {
        due.by(10, "BROKEN (the class failed before)");
        ClassStarter x = Given.classes(1);
        x.act(0, 3, 2, 0);
        for (int t = 0; t <= 2; t++) {
            x.plan(t, 0, 0);
        }
        due.steps(x, 1, 3);
        due.is("the one that failed it", x.result(1), 33);
        due.steps(x, 0, 1);
        due.steps(x, 2, 1);
        due.is("the others", 100 * x.result(0) + x.result(2), 2222);
        x.reset();
        due.steps(x, 2, 3);
        due.is("after reset it has not failed before", x.result(2), 33);
    }

    private static void initOnlyOfExceptions() {
        due.by(10, "INIT n (an exception n left an initialiser)");
        ClassStarter x = Given.classes(3);
        x.act(0, 3, 8, 0);
        x.act(1, 4, 8, 0);
        x.act(2, 0, 7, 0);
        for (int t = 0; t <= 2; t++) {
            x.plan(t, 0, t);
        }
        for (int t = 0; t <= 2; t++) {
            due.steps(x, t, 3);
        }
        due.is("an exception", x.result(0), 39);
        due.is("an error stays", x.result(1), 19);
        due.is("missing stays", x.result(2), 21);
    }

    private static void plansHaveThreeKindsAlone() {
        due.by(5, "a PLAN of at most 3 actions (0, 5 and 6 alone)");
        ClassStarter x = Given.classes(1);
        int[] wrong = {MIN, -1, 1, 2, 3, 4, 7, MAX};
        for (int action : wrong) {
            due.is("plan(0, " + action + ", 0)", x.plan(0, action, 0), -1);
        }
        due.is("plan(0, 0, 0)", x.plan(0, 0, 0), 1);
        due.is("plan(0, 5, 0)", x.plan(0, 5, 0), 2);
        due.is("plan(0, 6, 0)", x.plan(0, 6, 0), 3);
        due.is("a fourth", x.plan(0, 6, 0), -2);
    }

    private static void threeThreads() {
        due.by(5, "THREADS 0 .. 2 each have a PLAN");
        ClassStarter x = new ClassStarter();
        int[] wrong = {MIN, -1, 3, MAX};
        for (int t : wrong) {
            due.is("plan(" + t + ", 5, 0)", x.plan(t, 5, 0), -1);
            due.is("step(" + t + ")", x.step(t), -1);
        }
        for (int t = 0; t <= 2; t++) {
            due.is("its own plan", x.plan(t, 5, 10 + t), 1);
        }
        for (int t = 2; t >= 0; t--) {
            due.steps(x, t, 1);
            due.is("logged", x.logged(2 - t), 10 + t);
        }
    }

    private static void plansAreFullAtThree() {
        due.by(5, "each have a PLAN of at most 3 actions");
        ClassStarter x = new ClassStarter();
        for (int t = 0; t <= 2; t++) {
            for (int k = 1; k <= 3; k++) {
                due.is("plan", x.plan(t, 5, 10 * t + k), k);
            }
            due.is("a fourth", x.plan(t, 5, 10 * t + 4), -2);
        }
        for (int t = 0; t <= 2; t++) {
            due.steps(x, t, 3);
            due.is("ended", x.result(t), 0);
            due.is("no fourth", x.logged(3 * t + 2), 10 * t + 3);
        }
    }
}
