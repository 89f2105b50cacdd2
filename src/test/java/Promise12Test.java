/** Promise 12, waitsFor: each boundary that the document names, by its sentence. */
public final class Promise12Test {
    private static final Due due = new Due("Promise 12, waitsFor");

    public static void main(String[] args) {
        eachClassAndThread();
        outOfRange();
        notWaiting();
        busyByItself();
        missingOne();
        pendingDoesNotWait();
        constantDoesNotWait();
        waitsAtEachKindOfUse();
        stuckWaits();
        due.end();
    }

    private static void eachClassAndThread() {
        due.by("The class that thread t WAITS for");
        for (int t = 0; t <= 2; t++) {
            for (int c = 0; c <= 7; c++) {
                ClassStarter x = new ClassStarter();
                for (int k = 0; k <= c; k++) {
                    x.declare(-1, false, false, 0);
                }
                int other = (t + 1) % 3;
                x.plan(t, 0, c);
                x.plan(other, 0, c);
                due.is("before", x.waitsFor(t), -1);
                x.step(other);
                due.is("waitsFor(" + t + ")", x.waitsFor(t), c);
                due.is("the one that is inside", x.waitsFor(other), -1);
                x.step(other);
                due.is("after", x.waitsFor(t), -1);
            }
        }
    }

    private static void outOfRange() {
        due.by("REFUSED if it does not WAIT.");
        ClassStarter x = new ClassStarter();
        x.declare(-1, false, false, 0);
        for (int t = 0; t <= 2; t++) {
            x.plan(t, 0, 0);
        }
        x.step(1);
        int[] wrong = {Integer.MIN_VALUE, -1, 3, 4, Integer.MAX_VALUE};
        for (int t : wrong) {
            due.is("waitsFor(" + t + ")", x.waitsFor(t), -1);
        }
        due.is("waitsFor(0)", x.waitsFor(0), 0);
        due.is("waitsFor(2)", x.waitsFor(2), 0);
    }

    private static void notWaiting() {
        due.by("REFUSED if it does not WAIT.");
        ClassStarter x = new ClassStarter();
        x.declare(-1, false, false, 0);
        x.act(0, 5, 0, 0);
        due.is("an empty plan", x.waitsFor(0), -1);
        x.plan(0, 0, 0);
        x.plan(1, 5, 0);
        x.plan(1, 0, 0);
        x.step(0);
        due.is("it stands at a log", x.waitsFor(1), -1);
        due.is("it stands at a log", x.waitsFor(0), -1);
        x.step(0);
        due.is("it stands behind the last part", x.waitsFor(0), -1);
        x.step(1);
        due.is("it stands at a use now", x.waitsFor(1), 0);
        x.step(0);
        due.is("the class is done", x.waitsFor(1), -1);
        x.step(1);
        due.is("ended", x.waitsFor(1), -1);
    }

    private static void busyByItself() {
        due.by("BUSY by this thread: MADE");
        for (int t = 0; t <= 2; t++) {
            ClassStarter x = new ClassStarter();
            x.declare(-1, false, false, 0);
            x.act(0, 0, 0, 0);
            x.plan(t, 0, 0);
            x.step(t);
            due.is("it uses itself", x.waitsFor(t), -1);
            due.is("step", x.step(t), 1);
        }
    }

    private static void missingOne() {
        due.by("of one that is not declared: MISSING COMES");
        ClassStarter x = new ClassStarter();
        x.plan(0, 0, 7);
        due.is("before", x.waitsFor(0), -1);
        x.step(0);
        due.is("ended at a use", x.waitsFor(0), -1);
    }

    private static void pendingDoesNotWait() {
        due.by("There is a PENDING fault");
        ClassStarter x = new ClassStarter();
        x.declare(-1, false, false, 0);
        x.act(0, 3, 0, 0);
        x.declare(-1, false, false, 0);
        x.act(1, 0, 0, 0);
        x.plan(0, 0, 1);
        x.plan(1, 0, 1);
        for (int k = 0; k < 4; k++) {
            x.step(0);
        }
        due.is("pending at a use", x.waitsFor(0), -1);
        due.is("the other waits yet", x.waitsFor(1), 1);
        x.step(0);
        due.is("failed: it waits no more", x.waitsFor(1), -1);
    }

    private static void constantDoesNotWait() {
        due.by("but none if a is 1 and class b has it CONSTANT");
        for (int k = 0; k <= 1; k++) {
            for (int constant = 0; constant <= 1; constant++) {
                ClassStarter x = new ClassStarter();
                x.declare(-1, false, constant == 1, 0);
                x.declare(-1, false, false, 0);
                x.act(1, 2, k, 0);
                x.plan(0, 0, 0);
                x.plan(1, 0, 1);
                x.step(0);
                x.step(1);
                due.is("copy of static " + k, x.waitsFor(1), k == 1 && constant == 1 ? -1 : 0);
            }
        }
    }

    private static void waitsAtEachKindOfUse() {
        due.by("Of one that is BUSY by another thread: the thread WAITS");
        ClassStarter x = new ClassStarter();
        x.declare(-1, true, false, 0);
        x.declare(-1, false, false, 0);
        x.declare(1, false, false, 0);
        x.declare(-1, false, false, 0);
        x.inherit(3, 0, true);
        x.plan(0, 0, 0);
        x.plan(0, 0, 1);
        x.plan(1, 0, 2);
        x.plan(2, 0, 3);
        x.step(1);
        x.step(2);
        due.is("its superclass is new", x.waitsFor(1), -1);
        x.step(0);
        due.is("its interface is busy", x.waitsFor(2), 0);
        x.step(0);
        due.is("its interface is done", x.waitsFor(2), -1);
        x.step(0);
        due.is("its superclass is busy", x.waitsFor(1), 1);
    }

    private static void stuckWaits() {
        due.by("The class that thread t WAITS for");
        ClassStarter x = new ClassStarter();
        for (int c = 0; c <= 2; c++) {
            x.declare(-1, false, false, 0);
            x.act(c, 0, (c + 1) % 3, 0);
            x.plan(c, 0, c);
        }
        for (int t = 0; t <= 2; t++) {
            x.step(t);
        }
        for (int t = 0; t <= 2; t++) {
            due.is("stuck", x.result(t), 50);
            due.is("waitsFor(" + t + ")", x.waitsFor(t), (t + 1) % 3);
        }
    }
}
