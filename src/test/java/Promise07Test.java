/** Promise 7, reset: each boundary that the document names, by its sentence. */
public final class Promise07Test {
    private static final Due due = new Due("Promise 7, reset");

    public static void main(String[] args) {
        beforeTheFirstStep();
        howManySteps();
        waitingAndRefusedAreNone();
        twice();
        classesAreNew();
        staticsAsDeclared();
        nothingLogged();
        threadsAtTheStart();
        pendingIsGone();
        stuckIsGone();
        notBegun();
        whatIsDeclaredStays();
        goesTheSameWayAgain();
        due.end();
    }

    /** Class 0 ends well, class 1 fails, class 2 uses both; each thread begins with one of them. */
    private static ClassStarter three() {
        ClassStarter x = new ClassStarter();
        for (int c = 0; c <= 2; c++) {
            x.declare(-1, false, c == 1, 6);
            x.plan(c, 0, c);
            x.plan(c, 5, 10 + c);
        }
        x.act(0, 1, 0, 3);
        x.act(0, 5, 1, 0);
        x.act(1, 1, 0, 4);
        x.act(1, 3, 2, 0);
        x.act(2, 2, 0, 0);
        x.act(2, 0, 1, 0);
        return x;
    }

    private static void beforeTheFirstStep() {
        due.by("All is as before the first STEP .. How many steps were made.");
        due.is("a new object", new ClassStarter().reset(), 0);
        ClassStarter x = three();
        String before = Picture.of(x);
        due.is("reset()", x.reset(), 0);
        due.same("after it", Picture.of(x), before);
    }

    private static void howManySteps() {
        due.by("How many steps were made.");
        for (int times = 1; times <= 5; times++) {
            ClassStarter x = three();
            due.steps(x, 0, times);
            due.is("reset()", x.reset(), times);
        }
    }

    private static void waitingAndRefusedAreNone() {
        due.by("How many steps were made.");
        ClassStarter x = three();
        due.steps(x, 0, 1);
        due.steps(x, 2, 1);
        due.is("waits", x.step(2), 0);
        due.is("refused", x.step(3), -1);
        x.explore();
        due.is("reset()", x.reset(), 2);
    }

    private static void twice() {
        due.by("How many steps were made.");
        ClassStarter x = three();
        due.steps(x, 0, 3);
        due.is("first", x.reset(), 3);
        due.is("second", x.reset(), 0);
        due.steps(x, 1, 2);
        due.is("only those since", x.reset(), 2);
    }

    private static void classesAreNew() {
        due.by("classes NEW");
        ClassStarter x = three();
        due.steps(x, 0, 4);
        due.steps(x, 1, 4);
        due.steps(x, 2, 1);
        due.is("done", x.state(0), 1);
        due.is("failed", x.state(1), 2);
        due.is("busy", x.state(2), 6);
        x.reset();
        for (int c = 0; c <= 2; c++) {
            due.is("state(" + c + ")", x.state(c), 0);
        }
        due.steps(x, 2, 2);
        due.is("it is begun anew", x.inside(2), 0);
    }

    private static void staticsAsDeclared() {
        due.by("statics as declared");
        ClassStarter x = three();
        due.steps(x, 2, 5);
        due.is("static 0 of class 0", x.statics(0, 0), 3);
        due.is("static 0 of class 2", x.statics(2, 0), 3);
        x.reset();
        for (int c = 0; c <= 2; c++) {
            due.is("static 0 of class " + c, x.statics(c, 0), 0);
            due.is("static 1 of class " + c, x.statics(c, 1), c == 1 ? 6 : 0);
        }
    }

    private static void nothingLogged() {
        due.by("nothing logged");
        ClassStarter x = three();
        due.steps(x, 0, 5);
        due.is("count(2)", x.count(2), 2);
        x.reset();
        due.is("count(2)", x.count(2), 0);
        due.is("logged(0)", x.logged(0), ClassStarter.NONE);
        due.is("logged(1)", x.logged(1), ClassStarter.NONE);
        due.steps(x, 0, 3);
        due.is("the first anew", x.logged(0), 1);
        due.is("no second", x.logged(1), ClassStarter.NONE);
    }

    private static void threadsAtTheStart() {
        due.by("threads at the start of their PLANs");
        ClassStarter x = three();
        due.steps(x, 0, 5);
        due.is("ended without fault", x.result(0), 0);
        due.steps(x, 1, 4);
        due.is("ended with a fault", x.result(1), 33);
        due.steps(x, 2, 2);
        due.is("inside", x.inside(2), 2);
        x.reset();
        for (int t = 0; t <= 2; t++) {
            due.is("result(" + t + ")", x.result(t), -1);
            due.is("inside(" + t + ")", x.inside(t), -1);
            due.is("waitsFor(" + t + ")", x.waitsFor(t), -1);
        }
        for (int t = 0; t <= 2; t++) {
            due.steps(x, t, 1);
            due.is("its first use", x.inside(t), t);
        }
    }

    private static void pendingIsGone() {
        due.by("All is as before the first STEP");
        ClassStarter x = three();
        due.steps(x, 1, 3);
        due.is("reset() with a fault pending", x.reset(), 3);
        due.steps(x, 1, 1);
        due.is("class 1 is begun", x.state(1), 5);
        due.is("inside it", x.inside(1), 1);
    }

    private static void stuckIsGone() {
        due.by("All is as before the first STEP");
        ClassStarter x = new ClassStarter();
        for (int c = 0; c <= 1; c++) {
            x.declare(-1, false, false, 0);
            x.act(c, 0, 1 - c, 0);
            x.plan(c, 0, c);
        }
        due.steps(x, 0, 1);
        due.steps(x, 1, 1);
        due.is("stuck", x.result(1), 50);
        due.is("reset()", x.reset(), 2);
        due.steps(x, 1, 5);
        due.is("ended", x.result(1), 0);
        due.steps(x, 0, 1);
        due.is("ended", x.result(0), 0);
    }

    private static void notBegun() {
        due.by("and not begun");
        ClassStarter x = three();
        due.steps(x, 0, 1);
        due.is("begun", x.count(5), 1);
        x.reset();
        due.is("count(5)", x.count(5), 0);
        due.is("declare", x.declare(-1, true, false, 0), 3);
        due.is("declare", x.declare(-1, false, false, 0), 4);
        due.is("inherit", x.inherit(4, 3, true), 1);
        due.is("act", x.act(0, 5, 0, 0), 3);
        due.is("plan", x.plan(0, 5, 0), 3);
    }

    private static void whatIsDeclaredStays() {
        due.by("All is as before the first STEP");
        ClassStarter x = three();
        x.declare(-1, true, false, 0);
        x.declare(-1, false, false, 0);
        x.inherit(4, 3, true);
        String before = Picture.of(x);
        due.steps(x, 0, 5);
        due.steps(x, 1, 4);
        x.reset();
        due.same("after it", Picture.of(x), before);
        due.is("the interface", x.inherit(4, 3, true), -1);
        due.is("the actions", x.act(0, 5, 0, 0), 3);
        due.is("the plan", x.plan(0, 5, 0), 3);
    }

    private static void goesTheSameWayAgain() {
        due.by("All is as before the first STEP");
        ClassStarter x = three();
        int[] order = {0, 1, 2, 1, 0, 0, 2, 1, 0, 0, 2, 2, 2};
        String[] first = new String[2];
        for (int round = 0; round < 2; round++) {
            StringBuilder answers = new StringBuilder();
            for (int t : order) {
                answers.append(x.step(t)).append(' ');
            }
            first[round] = answers + Picture.of(x);
            x.reset();
        }
        due.same("the second round", first[1], first[0]);
    }
}
