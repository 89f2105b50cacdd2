/** Promise 1, a new object: each boundary that the document names, by its sentence. */
public final class Promise01Test {
    private static final long NONE = ClassStarter.NONE;
    private static final Due due = new Due("Promise 1, a new object");

    public static void main(String[] args) {
        noClasses();
        emptyPlans();
        notBegun();
        nothingElse();
        objectsAreApart();
        begunRefusesRightCalls();
        begunGoesBeforeFull();
        begunRefusesWrongCalls();
        begunUntilReset();
        due.end();
    }

    private static void noClasses() {
        due.by("No classes");
        ClassStarter x = new ClassStarter();
        due.is("count(0)", x.count(0), 0);
        for (int c = 0; c <= 7; c++) {
            due.is("state(" + c + ")", x.state(c), -1);
            due.is("statics(" + c + ", 0)", x.statics(c, 0), NONE);
            due.is("statics(" + c + ", 1)", x.statics(c, 1), NONE);
            due.is("act(" + c + ", ..)", x.act(c, 5, 0, 0), -1);
        }
        due.is("inherit(0, 0)", x.inherit(0, 0, true), -1);
        due.is("inherit(1, 0)", x.inherit(1, 0, true), -1);
        due.is("no class to stand under", x.declare(0, false, false, 0), -1);
        due.is("the first number", x.declare(-1, false, false, 0), 0);
    }

    private static void emptyPlans() {
        due.by("empty PLANs");
        ClassStarter x = new ClassStarter();
        for (int t = 0; t <= 2; t++) {
            due.is("result(" + t + ")", x.result(t), 0);
            due.is("step(" + t + ")", x.step(t), -1);
            due.is("inside(" + t + ")", x.inside(t), -1);
            due.is("waitsFor(" + t + ")", x.waitsFor(t), -1);
        }
        due.is("explore()", x.explore(), 1);
        due.is("orders", x.count(3), 1);
        for (int t = 0; t <= 2; t++) {
            due.is("plan(" + t + ", 5, 0)", x.plan(t, 5, 0), 1);
        }
    }

    private static void notBegun() {
        due.by("not begun");
        ClassStarter x = new ClassStarter();
        due.is("count(5)", x.count(5), 0);
        due.is("count(1)", x.count(1), 0);
        due.is("reset()", x.reset(), 0);
        due.is("declare", x.declare(-1, true, false, 0), 0);
        due.is("declare", x.declare(-1, false, false, 0), 1);
        due.is("inherit", x.inherit(1, 0, true), 1);
        due.is("act", x.act(1, 5, 0, 0), 1);
        due.is("plan", x.plan(0, 0, 1), 1);
        due.is("count(5) after these", x.count(5), 0);
    }

    private static void nothingElse() {
        due.by("No classes; empty PLANs; not begun.");
        ClassStarter x = new ClassStarter();
        for (int what = 0; what <= 5; what++) {
            due.is("count(" + what + ")", x.count(what), 0);
        }
        due.is("logged(0)", x.logged(0), NONE);
        due.is("outcome(0)", x.outcome(0), NONE);
    }

    private static void objectsAreApart() {
        due.by("No classes; empty PLANs; not begun.");
        ClassStarter first = full();
        first.explore();
        first.step(0);
        String before = Picture.of(first);
        ClassStarter second = new ClassStarter();
        due.same("a second object", Picture.of(second), "counts 0 0 0 0 0 0; classes"
                + " -1/none/none".repeat(8) + "; threads 0/-1/-1 0/-1/-1 0/-1/-1; logged none; outcomes none");
        second.declare(-1, false, true, 5);
        second.plan(1, 5, 9);
        second.step(1);
        due.same("the first object", Picture.of(first), before);
    }

    /** Nothing more can be added: 8 classes, class 7 with 2 interfaces and 5 actions, 3 actions in each plan. */
    private static ClassStarter full() {
        ClassStarter x = new ClassStarter();
        for (int c = 0; c <= 7; c++) {
            x.declare(-1, c < 3, false, 0);
        }
        x.inherit(7, 0, true);
        x.inherit(7, 1, true);
        for (int k = 0; k < 5; k++) {
            x.act(7, 5, k, 0);
        }
        for (int k = 0; k < 3; k++) {
            x.plan(0, 5, k);
            x.plan(1, 5, k);
            x.plan(2, 5, k);
        }
        return x;
    }

    private static void begunRefusesRightCalls() {
        due.by("While all is begun, declare, inherit, act and plan are REFUSED");
        ClassStarter x = new ClassStarter();
        x.declare(-1, true, false, 0);
        x.declare(-1, false, false, 0);
        x.plan(0, 5, 0);
        x.plan(0, 5, 0);
        due.is("step(0)", x.step(0), 1);
        due.is("declare", x.declare(-1, false, false, 0), -1);
        due.is("inherit", x.inherit(1, 0, true), -1);
        due.is("act", x.act(1, 5, 0, 0), -1);
        due.is("plan of the thread that stepped", x.plan(0, 5, 0), -1);
        due.is("plan of another thread", x.plan(1, 5, 0), -1);
        due.is("classes", x.count(0), 2);
        due.is("thread 1's plan is empty yet", x.result(1), 0);
        x.reset();
        due.is("inherit added nothing", x.inherit(1, 0, true), 1);
        due.is("act added nothing", x.act(1, 5, 0, 0), 1);
        due.is("plan added nothing", x.plan(0, 5, 0), 3);
    }

    private static void begunGoesBeforeFull() {
        due.by("REFUSED, before all else.");
        ClassStarter x = full();
        due.is("not begun: declare", x.declare(-1, false, false, 0), -2);
        due.is("not begun: inherit", x.inherit(7, 2, true), -2);
        due.is("not begun: act", x.act(7, 5, 0, 0), -2);
        due.is("not begun: plan", x.plan(0, 5, 0), -2);
        due.is("step(1)", x.step(1), 1);
        due.is("begun: declare", x.declare(-1, false, false, 0), -1);
        due.is("begun: inherit", x.inherit(7, 2, true), -1);
        due.is("begun: act", x.act(7, 5, 0, 0), -1);
        due.is("begun: plan", x.plan(0, 5, 0), -1);
    }

    private static void begunRefusesWrongCalls() {
        due.by("REFUSED, before all else.");
        ClassStarter x = full();
        x.step(2);
        due.is("declare", x.declare(8, true, false, 0), -1);
        due.is("inherit", x.inherit(8, 8, true), -1);
        due.is("act", x.act(-1, 7, 0, 0), -1);
        due.is("plan", x.plan(3, 1, 0), -1);
    }

    private static void begunUntilReset() {
        due.by("While all is begun");
        ClassStarter x = new ClassStarter();
        x.plan(0, 5, 0);
        x.explore();
        due.is("an explore begins nothing", x.declare(-1, false, false, 0), 0);
        due.is("step(0)", x.step(0), 1);
        due.is("all threads have ended: it is begun yet", x.declare(-1, false, false, 0), -1);
        due.is("a refused step", x.step(0), -1);
        due.is("begun yet", x.plan(1, 5, 0), -1);
        due.is("reset()", x.reset(), 1);
        due.is("not begun", x.declare(-1, false, false, 0), 1);
        due.is("not begun", x.plan(1, 5, 0), 1);
    }
}
