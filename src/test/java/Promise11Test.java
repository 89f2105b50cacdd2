/** Promise 11, inside: each boundary that the document names, by its sentence. */
public final class Promise11Test {
    private static final Due due = new Due("Promise 11, inside");

    public static void main(String[] args) {
        planBefore();
        outOfRange();
        eachClass();
        deepestStack();
        useOfADoneClassIsNoFrame();
        planAfter();
        planAfterAFault();
        due.end();
    }

    private static void planBefore() {
        due.by("REFUSED if that is its PLAN");
        ClassStarter x = new ClassStarter();
        x.declare(-1, false, false, 0);
        due.is("an empty plan", x.inside(0), -1);
        x.plan(0, 0, 0);
        due.is("at a use", x.inside(0), -1);
        x.plan(1, 6, 0);
        x.plan(1, 0, 7);
        x.step(1);
        due.is("in the plan", x.inside(1), -1);
        x.step(1);
        due.is("a missing class has no frame", x.inside(1), -1);
    }

    private static void outOfRange() {
        due.by("or for another t");
        ClassStarter x = new ClassStarter();
        x.declare(-1, false, false, 0);
        for (int t = 0; t <= 2; t++) {
            x.plan(t, 0, 0);
        }
        int[] wrong = {Integer.MIN_VALUE, -1, 3, 4, Integer.MAX_VALUE};
        x.step(2);
        for (int t : wrong) {
            due.is("inside(" + t + ")", x.inside(t), -1);
        }
        due.is("inside(2)", x.inside(2), 0);
        due.is("inside(1)", x.inside(1), -1);
    }

    private static void eachClass() {
        due.by("The class of thread t's top FRAME");
        for (int t = 0; t <= 2; t++) {
            for (int c = 0; c <= 7; c++) {
                ClassStarter x = new ClassStarter();
                for (int k = 0; k <= c; k++) {
                    x.declare(-1, k % 2 == 0, false, 0);
                }
                x.plan(t, 0, c);
                x.step(t);
                due.is("inside(" + t + ")", x.inside(t), c);
            }
        }
    }

    private static void deepestStack() {
        due.by("The class of thread t's top FRAME");
        ClassStarter x = new ClassStarter();
        for (int c = 0; c <= 7; c++) {
            x.declare(c - 1, false, false, 0);
        }
        x.plan(1, 0, 7);
        for (int c = 7; c >= 0; c--) {
            x.step(1);
            due.is("down", x.inside(1), c);
        }
        for (int c = 0; c <= 7; c++) {
            due.is("up", x.inside(1), c);
            x.step(1);
        }
        due.is("in its plan", x.inside(1), -1);
    }

    private static void useOfADoneClassIsNoFrame() {
        due.by("one that is DONE, or BUSY by this thread: MADE");
        ClassStarter x = new ClassStarter();
        x.declare(-1, false, false, 0);
        x.declare(-1, false, false, 0);
        x.act(1, 0, 0, 0);
        x.act(1, 0, 1, 0);
        x.plan(0, 0, 0);
        x.plan(0, 0, 1);
        for (int k = 0; k < 3; k++) {
            x.step(0);
        }
        due.is("in class 1", x.inside(0), 1);
        x.step(0);
        due.is("after a use of one that is done", x.inside(0), 1);
        x.step(0);
        due.is("after a use of itself", x.inside(0), 1);
        due.is("behind its last part", x.step(0), 1);
        due.is("in its plan", x.inside(0), -1);
    }

    private static void planAfter() {
        due.by("REFUSED if that is its PLAN");
        ClassStarter x = new ClassStarter();
        x.declare(-1, false, false, 0);
        x.plan(0, 0, 0);
        x.plan(0, 5, 0);
        x.step(0);
        x.step(0);
        due.is("not ended", x.inside(0), -1);
        x.step(0);
        due.is("ended", x.inside(0), -1);
    }

    private static void planAfterAFault() {
        due.by("the FRAME goes");
        ClassStarter x = new ClassStarter();
        x.declare(-1, false, false, 0);
        x.act(0, 4, 0, 0);
        x.declare(-1, false, false, 0);
        x.act(1, 0, 0, 0);
        x.plan(0, 0, 1);
        for (int k = 0; k < 3; k++) {
            x.step(0);
        }
        due.is("pending", x.inside(0), 0);
        x.step(0);
        due.is("it has come to class 1", x.inside(0), 1);
        x.step(0);
        due.is("and to the plan", x.inside(0), -1);
    }
}
