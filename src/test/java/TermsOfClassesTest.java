/** What the document says of an object and of classes before its promises: each sentence, with its boundaries. */
public final class TermsOfClassesTest {
    private static final int MIN = Integer.MIN_VALUE;
    private static final int MAX = Integer.MAX_VALUE;
    private static final long NONE = ClassStarter.NONE;
    private static final Due due = new Due("Terms of classes");

    public static void main(String[] args) {
        fiveHundredAndTwelveCalls();
        fiveHundredAndTwelveCallsWithExplore();
        declaredInThisOrder();
        superclassIsALesserNumber();
        superclassOrNone();
        interfaceOrNot();
        twoStatics();
        staticsAreInts();
        staticOneMayBeConstant();
        fullInitialiser();
        interfaceHasNoSuperclass();
        atMostTwoInterfaces();
        interfacesAreLesserNumbers();
        defaultedOrNot();
        fourStates();
        staticsAreZeroWhenDeclared();
        constantFromThenOn();
        due.end();
    }

    private static void fiveHundredAndTwelveCalls() {
        due.by(1, "An object is used for at most 512 calls after it has been made");
        ClassStarter x = new ClassStarter();
        x.declare(-1, false, false, 0);
        x.act(0, 5, 3, 0);
        x.plan(0, 0, 0);
        int calls = 3;
        while (calls + 5 <= 512) {
            due.steps(x, 0, 3);
            due.is("logged(0)", x.logged(0), 3);
            due.is("reset()", x.reset(), 3);
            calls += 5;
        }
        while (calls < 512) {
            due.is("count(0)", x.count(0), 1);
            calls++;
        }
    }

    /** It explores 1680 orders and steps by turns until its calls are used up. */
    private static void fiveHundredAndTwelveCallsWithExplore() {
        due.by(14, "An object is used for at most 512 calls after it has been made");
        ClassStarter x = new ClassStarter();
        for (int k = 0; k < 3; k++) {
            x.plan(0, 5, 1);
            x.plan(1, 5, 2);
            x.plan(2, 5, 3);
        }
        for (int calls = 9; calls + 3 <= 512; calls += 3) {
            due.is("step", x.step(calls % 3), 1);
            due.is("explore()", x.explore(), 1);
            due.is("reset()", x.reset(), 1);
        }
    }

    private static void declaredInThisOrder() {
        due.by(2, "CLASSES 0 .. 7 are declared in this order.");
        ClassStarter x = new ClassStarter();
        for (int c = 0; c <= 7; c++) {
            due.is("not there before", x.state(c), -1);
            due.is("its number", x.declare(c % 2 == 0 ? -1 : c - 1, false, true, 70 + c), c);
            due.is("its constant", x.statics(c, 1), 70 + c);
        }
        due.is("no number 8", x.declare(-1, false, false, 0), -2);
    }

    private static void superclassIsALesserNumber() {
        due.by(2, "One has a superclass (a lesser number) or none");
        for (int c = 0; c <= 7; c++) {
            for (int superclass = 0; superclass <= 8; superclass++) {
                ClassStarter x = Given.classes(c);
                int want = superclass < c ? c : -1;
                due.is("class " + c + " with superclass " + superclass, x.declare(superclass, false, false, 0), want);
            }
        }
    }

    private static void superclassOrNone() {
        due.by(2, "One has a superclass (a lesser number) or none");
        ClassStarter x = Given.classes(2);
        x.declare(0, false, false, 0);
        x.plan(0, 0, 1);
        x.plan(0, 0, 2);
        due.steps(x, 0, 2);
        due.is("none: done, and no other was used", 10 * x.state(1) + x.state(0), 10);
        due.steps(x, 0, 2);
        due.is("its superclass is used", x.inside(0), 0);
        due.steps(x, 0, 2);
        due.is("both are done", 10 * x.state(2) + x.state(0), 11);
    }

    private static void interfaceOrNot() {
        due.by(3, "an interface or not");
        for (int kinds = 0; kinds < 4; kinds++) {
            boolean first = kinds % 2 == 1;
            boolean second = kinds / 2 == 1;
            ClassStarter x = new ClassStarter();
            due.is("declare", x.declare(-1, first, false, 0), 0);
            due.is("declare", x.declare(-1, second, false, 0), 1);
            due.is("inherited, kinds " + kinds, x.inherit(1, 0, true), first && !second ? 1 : -1);
            due.is("a superclass, kinds " + kinds, x.declare(0, false, false, 0), first ? -1 : 2);
        }
    }

    private static void twoStatics() {
        due.by(9, "two STATICS 0 and 1 (ints)");
        ClassStarter x = new ClassStarter();
        for (int c = 0; c <= 7; c++) {
            x.declare(-1, c % 2 == 0, c % 3 == 0, 10 + c);
            due.is("static 0", x.statics(c, 0), 0);
            due.is("static 1", x.statics(c, 1), c % 3 == 0 ? 10 + c : 0);
            int[] others = {MIN, -1, 2, 3, MAX};
            for (int k : others) {
                due.is("statics(" + c + ", " + k + ")", x.statics(c, k), NONE);
            }
        }
    }

    private static void staticsAreInts() {
        due.by(9, "two STATICS 0 and 1 (ints)");
        int[] ints = {MIN, MIN + 1, -1, 0, 1, MAX - 1, MAX};
        for (int value : ints) {
            ClassStarter x = new ClassStarter();
            x.declare(-1, false, true, value);
            x.act(0, 1, 0, value);
            x.plan(0, 0, 0);
            due.steps(x, 0, 2);
            due.is("static 0", x.statics(0, 0), value);
            due.is("static 1", x.statics(0, 1), value);
        }
    }

    private static void staticOneMayBeConstant() {
        due.by(2, "of which static 1 may be CONSTANT");
        ClassStarter x = new ClassStarter();
        x.declare(-1, false, true, 8);
        x.declare(-1, false, false, 8);
        due.is("a constant", x.statics(0, 1), 8);
        due.is("none", x.statics(1, 1), 0);
        due.is("static 0 is none", x.statics(0, 0), 0);
        x.declare(-1, false, false, 0);
        x.act(2, 2, 1, 0);
        x.act(2, 2, 1, 1);
        x.act(2, 2, 0, 0);
        x.plan(0, 0, 2);
        due.steps(x, 0, 3);
        due.is("static 1 as a constant is not used", x.state(0), 0);
        due.is("static 1 that is none is used", x.state(1), 4);
        due.steps(x, 0, 2);
        due.is("static 0 is used, beside a constant too", x.state(0), 4);
    }

    private static void fullInitialiser() {
        due.by(4, "an INITIALISER of at most 5 actions");
        ClassStarter x = Given.classes(1);
        for (int k = 0; k < 5; k++) {
            due.is("act", x.act(0, 1, 0, 10 + k), k + 1);
        }
        due.is("a sixth", x.act(0, 1, 0, 15), -2);
        x.plan(0, 0, 0);
        due.steps(x, 0, 1);
        for (int k = 0; k < 5; k++) {
            due.steps(x, 0, 1);
            due.is("put by action " + k, x.statics(0, 0), 10 + k);
        }
        due.is("busy yet", x.state(0), 4);
        due.steps(x, 0, 1);
        due.is("done", x.state(0), 1);
    }

    private static void interfaceHasNoSuperclass() {
        due.by(2, "An interface has no superclass");
        ClassStarter x = Given.classes(1);
        due.is("with one", x.declare(0, true, false, 0), -1);
        due.is("without", x.declare(-1, true, false, 0), 1);
        x.plan(0, 0, 1);
        due.steps(x, 0, 2);
        due.is("it uses none", x.state(0), 0);
    }

    private static void atMostTwoInterfaces() {
        due.by(3, "a class has at most 2 interfaces (lesser numbers), each DEFAULTED or not.");
        for (int defaults = 0; defaults < 4; defaults++) {
            ClassStarter x = new ClassStarter();
            for (int i = 0; i <= 2; i++) {
                x.declare(-1, true, false, 0);
            }
            x.declare(-1, false, false, 0);
            due.is("a first", x.inherit(3, 2, defaults % 2 == 1), 1);
            due.is("a second", x.inherit(3, 0, defaults / 2 == 1), 2);
            due.is("a third", x.inherit(3, 1, false), -2);
            due.is("a third, defaulted", x.inherit(3, 1, true), -2);
            due.is("another class", x.declare(3, false, false, 0), 4);
            due.is("has its own count", x.inherit(4, 1, false), 1);
        }
    }

    private static void interfacesAreLesserNumbers() {
        due.by(3, "a class has at most 2 interfaces (lesser numbers)");
        for (int c = 0; c <= 7; c++) {
            ClassStarter x = new ClassStarter();
            for (int k = 0; k <= 7; k++) {
                x.declare(-1, k != c, false, 0);
            }
            due.is("itself", x.inherit(c, c, true), -1);
            for (int i = c + 1; i <= 8; i++) {
                due.is("class " + c + " interface " + i, x.inherit(c, i, true), -1);
            }
            if (c > 0) {
                due.is("the one before", x.inherit(c, c - 1, true), 1);
            }
            if (c > 1) {
                due.is("the first", x.inherit(c, 0, true), 2);
            }
        }
    }

    private static void defaultedOrNot() {
        due.by(3, "each DEFAULTED or not");
        for (int defaults = 0; defaults < 4; defaults++) {
            int first = defaults % 2;
            int second = defaults / 2;
            ClassStarter x = new ClassStarter();
            x.declare(-1, true, false, 0);
            x.declare(-1, true, false, 0);
            x.declare(-1, false, false, 0);
            x.inherit(2, 0, first == 1);
            x.inherit(2, 1, second == 1);
            x.plan(0, 0, 2);
            due.steps(x, 0, 2 + 2 * first + 2 * second);
            due.is("ended", x.result(0), 0);
            due.is("the first is done or new", x.state(0), first);
            due.is("the second is done or new", x.state(1), second);
        }
    }

    private static void fourStates() {
        due.by(8, "A class is NEW, BUSY (by a thread), DONE or FAILED.");
        for (int t = 0; t <= 2; t++) {
            ClassStarter x = Given.classes(2);
            x.act(1, 4, 0, 0);
            x.plan(t, 6, 0);
            x.plan(t, 0, 1);
            x.plan(t, 0, 0);
            due.is("new", x.state(0), 0);
            due.steps(x, t, 2);
            due.is("busy", x.state(1), 4 + t);
            due.steps(x, t, 1);
            due.is("busy with a fault pending", x.state(1), 4 + t);
            due.steps(x, t, 1);
            due.is("failed", x.state(1), 2);
            due.is("new yet", x.state(0), 0);
            due.steps(x, t, 1);
            due.is("busy", x.state(0), 4 + t);
            due.steps(x, t, 1);
            due.is("done", x.state(0), 1);
            due.is("failed for good", x.state(1), 2);
        }
    }

    private static void staticsAreZeroWhenDeclared() {
        due.by(9, "Statics are 0 when it is declared");
        ClassStarter x = new ClassStarter();
        int[] values = {MIN, -1, 0, 1, MAX};
        for (int c = 0; c < values.length; c++) {
            due.is("none before", x.statics(c, 0), NONE);
            x.declare(-1, c == 2, false, values[c]);
            due.is("static 0", x.statics(c, 0), 0);
            due.is("static 1", x.statics(c, 1), 0);
        }
    }

    private static void constantFromThenOn() {
        due.by(9, "static 1 the CONSTANT's value from then on");
        ClassStarter x = new ClassStarter();
        x.declare(-1, false, true, -5);
        due.is("when declared", x.statics(0, 1), -5);
        x.act(0, 1, 0, 3);
        x.act(0, 4, 0, 0);
        x.plan(0, 0, 0);
        due.is("before it is begun", x.statics(0, 1), -5);
        due.steps(x, 0, 2);
        due.is("while it is busy", x.statics(0, 1), -5);
        due.is("static 0 is put", x.statics(0, 0), 3);
        due.steps(x, 0, 2);
        due.is("when it has failed", x.statics(0, 1), -5);
        due.is("static 0 stays, too", x.statics(0, 0), 3);
        x.reset();
        due.is("after reset", x.statics(0, 1), -5);
        due.is("static 0 is as declared", x.statics(0, 0), 0);
    }
}
