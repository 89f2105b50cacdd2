/** Promise 10, result: each boundary that the document names, by its sentence. */
public final class Promise10Test {
    private static final Due due = new Due("Promise 10, result");

    public static void main(String[] args) {
        outOfRange();
        endedWithoutFault();
        endedFromTheStart();
        errors();
        inits();
        missing();
        broken();
        noneOfThese();
        stuck();
        waitingIsNotStuck();
        endedIsNotStuck();
        due.end();
    }

    private static void outOfRange() {
        due.by("The RESULT of thread t 0 .. 2 now; REFUSED for another");
        int[] wrong = {Integer.MIN_VALUE, -1, 3, 4, Integer.MAX_VALUE};
        ClassStarter x = new ClassStarter();
        for (int t : wrong) {
            due.is("result(" + t + ")", x.result(t), -1);
        }
        x.plan(0, 5, 0);
        due.steps(x, 0, 1);
        for (int t : wrong) {
            due.is("result(" + t + ") behind the end", x.result(t), -1);
        }
        for (int t = 0; t <= 2; t++) {
            due.is("result(" + t + ")", x.result(t), 0);
        }
    }

    private static void endedWithoutFault() {
        due.by("A thread ENDS, too, when its PLAN stands behind its last PART (with no step more");
        for (int length = 1; length <= 3; length++) {
            ClassStarter x = new ClassStarter();
            for (int k = 0; k < length; k++) {
                x.plan(1, 5, k);
            }
            for (int k = 0; k < length; k++) {
                due.is("before its last", x.result(1), -1);
                due.steps(x, 1, 1);
            }
            due.is("behind its last", x.result(1), 0);
        }
    }

    private static void endedFromTheStart() {
        due.by("with an empty PLAN from the start");
        ClassStarter x = new ClassStarter();
        for (int t = 0; t <= 2; t++) {
            due.is("result(" + t + ")", x.result(t), 0);
            x.plan(t, 6, 0);
            due.is("result(" + t + ") with a plan", x.result(t), -1);
        }
    }

    private static int resultOf(int action, int n) {
        ClassStarter x = new ClassStarter();
        x.declare(-1, false, false, 0);
        x.act(0, action, n, 0);
        x.plan(2, 0, 0);
        due.steps(x, 2, 2);
        due.is("pending", x.result(2), -1);
        due.steps(x, 2, 1);
        return x.result(2);
    }

    private static void errors() {
        due.by("11 + n ENDED with error n");
        for (int n = 0; n <= 9; n++) {
            due.is("error " + n, resultOf(4, n), 11 + n);
        }
    }

    private static void inits() {
        due.by("31 + n INIT n");
        for (int n = 0; n <= 9; n++) {
            due.is("init " + n, resultOf(3, n), 31 + n);
        }
    }

    private static void missing() {
        due.by("21 MISSING");
        for (int c = 0; c <= 7; c++) {
            ClassStarter x = new ClassStarter();
            x.plan(0, 0, c);
            due.steps(x, 0, 1);
            due.is("use of " + c, x.result(0), 21);
        }
        due.is("through a class", resultOf(0, 1), 21);
    }

    private static void broken() {
        due.by("22 BROKEN");
        ClassStarter x = new ClassStarter();
        x.declare(-1, false, false, 0);
        x.act(0, 3, 9, 0);
        x.declare(0, false, false, 0);
        x.plan(0, 0, 0);
        x.plan(1, 0, 0);
        x.plan(2, 0, 1);
        due.steps(x, 0, 3);
        due.steps(x, 1, 1);
        due.is("used by another thread", x.result(1), 22);
        due.steps(x, 2, 3);
        due.is("through a class", x.result(2), 22);
        due.is("the first one", x.result(0), 40);
    }

    private static void noneOfThese() {
        due.by("which is the answer for \"none of these\" too");
        ClassStarter x = new ClassStarter();
        x.declare(-1, false, false, 0);
        x.plan(0, 0, 0);
        due.is("at the start", x.result(0), -1);
        due.steps(x, 0, 1);
        due.is("inside a class, behind its last part", x.result(0), -1);
        due.steps(x, 0, 1);
        due.is("ended", x.result(0), 0);
        x.reset();
        due.is("at the start again", x.result(0), -1);
    }

    /** Threads 0 and 1 use each other's class; thread 2 logs once. */
    private static ClassStarter circle() {
        ClassStarter x = new ClassStarter();
        for (int c = 0; c <= 1; c++) {
            x.declare(-1, false, false, 0);
            x.act(c, 0, 1 - c, 0);
            x.plan(c, 0, c);
        }
        x.plan(2, 5, 0);
        return x;
    }

    private static void stuck() {
        due.by("A thread is STUCK if it WAITS and no thread can make a STEP.");
        ClassStarter x = circle();
        due.steps(x, 2, 1);
        due.steps(x, 0, 1);
        due.steps(x, 1, 1);
        due.is("result(0)", x.result(0), 50);
        due.is("result(1)", x.result(1), 50);
        x.step(0);
        due.is("stuck yet", x.result(0), 50);
    }

    private static void waitingIsNotStuck() {
        due.by("A thread is STUCK if it WAITS and no thread can make a STEP.");
        ClassStarter x = circle();
        due.steps(x, 0, 1);
        due.is("it can make a step", x.result(0), -1);
        due.steps(x, 1, 1);
        due.is("thread 2 can make a step", x.result(0), -1);
        due.is("thread 2 can make a step", x.result(1), -1);
        due.is("it waits", x.waitsFor(0), 1);
        due.steps(x, 2, 1);
        due.is("none can", x.result(0), 50);
        due.is("none can", x.result(1), 50);
    }

    private static void endedIsNotStuck() {
        due.by("The RESULT of a thread: 0 ENDED without fault");
        ClassStarter x = circle();
        due.steps(x, 0, 1);
        due.steps(x, 1, 1);
        due.steps(x, 2, 1);
        due.is("ended while the others are stuck", x.result(2), 0);
        x.reset();
        x.plan(2, 0, 7);
        due.steps(x, 0, 1);
        due.steps(x, 1, 1);
        due.steps(x, 2, 2);
        due.is("ended with missing", x.result(2), 21);
        due.is("stuck", x.result(0), 50);
    }
}
