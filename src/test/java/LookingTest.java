/** Promises 8 to 13 and 16 for wrong inputs, and that looking changes nothing. */
public final class LookingTest {
    private static final int MIN = Integer.MIN_VALUE;
    private static final int MAX = Integer.MAX_VALUE;
    private static final Due due = new Due("LookingTest");

    public static void main(String[] args) {
        wrongNumbers();
        everyState();
        insideAndWaitsFor();
        loggedInOrder();
        counts();
        due.end();
    }

    private static ClassStarter waiting() {
        ClassStarter x = new ClassStarter();
        for (int c = 0; c < 3; c++) {
            x.declare(-1, false, c == 1, 11);
        }
        x.act(0, 0, 1, 0);
        x.act(1, 1, 0, 4);
        x.act(2, 4, 0, 0);
        x.plan(0, 0, 0);
        x.plan(1, 0, 1);
        x.plan(2, 0, 2);
        return x;
    }

    private static void wrongNumbers() {
        ClassStarter x = waiting();
        x.step(0);
        x.step(1);
        int[] noClasses = {MIN, -1, 3, 7, 8, MAX};
        for (int c : noClasses) {
            due.is("state(" + c + ")", x.state(c), -1);
            due.is("statics(" + c + ", 0)", x.statics(c, 0), ClassStarter.NONE);
            due.is("statics(" + c + ", 1)", x.statics(c, 1), ClassStarter.NONE);
        }
        int[] noStatics = {MIN, -1, 2, MAX};
        for (int k : noStatics) {
            due.is("statics(0, " + k + ")", x.statics(0, k), ClassStarter.NONE);
        }
        int[] noThreads = {MIN, -1, 3, MAX};
        for (int t : noThreads) {
            due.is("result(" + t + ")", x.result(t), -1);
            due.is("inside(" + t + ")", x.inside(t), -1);
            due.is("waitsFor(" + t + ")", x.waitsFor(t), -1);
        }
        int[] noCounts = {MIN, -1, 6, MAX};
        for (int what : noCounts) {
            due.is("count(" + what + ")", x.count(what), -1);
        }
        int[] noLogs = {MIN, -1, 0, MAX};
        for (int k : noLogs) {
            due.is("logged(" + k + ")", x.logged(k), ClassStarter.NONE);
            due.is("outcome(" + k + ")", x.outcome(k), ClassStarter.NONE);
        }
        due.is("looking makes no steps", x.reset(), 2);
    }

    private static void everyState() {
        ClassStarter x = waiting();
        due.is("new", x.state(0), 0);
        for (int t = 0; t < 3; t++) {
            x.step(t);
            due.is("busy by " + t, x.state(t), 4 + t);
        }
        x.step(1);
        due.is("put", x.statics(1, 0), 4);
        x.step(1);
        due.is("done", x.state(1), 1);
        x.step(2);
        due.is("pending: busy", x.state(2), 6);
        x.step(2);
        due.is("failed", x.state(2), 2);
        due.is("the constant", x.statics(1, 1), 11);
        due.is("no constant", x.statics(2, 1), 0);
    }

    private static void insideAndWaitsFor() {
        ClassStarter x = waiting();
        due.is("in the plan", x.inside(1), -1);
        x.step(1);
        due.is("in class 1", x.inside(1), 1);
        due.is("does not wait yet", x.waitsFor(0), -1);
        x.step(0);
        due.is("in class 0", x.inside(0), 0);
        due.is("waits from there on, without a call of step", x.waitsFor(0), 1);
        due.is("the other does not wait", x.waitsFor(1), -1);
        x.step(1);
        due.is("waits until it is done", x.waitsFor(0), 1);
        x.step(1);
        due.is("waits no more", x.waitsFor(0), -1);
        x.step(0);
        due.is("the use was made", x.inside(0), 0);
        x.step(0);
        due.is("back in the plan", x.inside(0), -1);
        x.reset();
        due.is("in the plan after a reset", x.inside(2), -1);
        due.is("waits for none after a reset", x.waitsFor(0), -1);
    }

    private static void loggedInOrder() {
        ClassStarter x = new ClassStarter();
        for (int t = 0; t < 3; t++) {
            x.plan(t, 5, MIN + t);
            x.plan(t, 6, 0);
            x.plan(t, 0, 0);
        }
        int[] order = {2, 0, 1, 1, 1, 0, 2, 2, 0};
        for (int t : order) {
            due.is("step", x.step(t), 1);
        }
        long[] log = {MIN + 2, MIN, MIN + 1, -1, -1, -1};
        for (int k = 0; k < log.length; k++) {
            due.is("logged(" + k + ")", x.logged(k), log[k]);
        }
        due.is("no more", x.logged(6), ClassStarter.NONE);
        due.is("count", x.count(2), 6);
        x.reset();
        due.is("gone", x.logged(0), ClassStarter.NONE);
        x.step(1);
        due.is("anew", x.logged(0), MIN + 1);
        due.is("what was there before is not", x.logged(1), ClassStarter.NONE);
    }

    private static void counts() {
        ClassStarter x = waiting();
        due.is("classes", x.count(0), 3);
        due.is("not begun", x.count(5), 0);
        x.step(0);
        x.step(1);
        x.step(0);
        due.is("steps", x.count(1), 2);
        due.is("begun", x.count(5), 1);
        due.is("no orders", x.count(3), 0);
        due.is("none stuck", x.count(4), 0);
        x.reset();
        due.is("classes stay", x.count(0), 3);
        due.is("steps gone", x.count(1), 0);
        due.is("not begun again", x.count(5), 0);
    }
}
