/** Promises 1 to 5: a new object, declare, inherit, act, plan. */
public final class DeclaringTest {
    private static final int MIN = Integer.MIN_VALUE;
    private static final int MAX = Integer.MAX_VALUE;
    private static final Due due = new Due("DeclaringTest");

    public static void main(String[] args) {
        newObject();
        begunRefusesBeforeAllElse();
        declareAnswersNumbers();
        declareRefusesWrongSuperclasses();
        declareIsFullAtEight();
        declareLooksAtValueOnlyForConstants();
        inheritAnswersCounts();
        inheritRefusesWrongClasses();
        inheritIsFullAtTwo();
        actAnswersCounts();
        actLooksAtOperands();
        actIsFullAtFive();
        planAnswersCounts();
        planLooksAtOperands();
        planIsFullAtThree();
        due.end();
    }

    private static void newObject() {
        ClassStarter x = new ClassStarter();
        for (int what = 0; what <= 5; what++) {
            due.is("new: count(" + what + ")", x.count(what), 0);
        }
        due.is("new: state(0)", x.state(0), -1);
        due.is("new: statics(0, 0)", x.statics(0, 0), ClassStarter.NONE);
        due.is("new: logged(0)", x.logged(0), ClassStarter.NONE);
        due.is("new: outcome(0)", x.outcome(0), ClassStarter.NONE);
        due.is("new: reset()", x.reset(), 0);
        for (int t = 0; t < 3; t++) {
            due.is("new: step(" + t + ")", x.step(t), -1);
            due.is("new: result(" + t + ")", x.result(t), 0);
            due.is("new: inside(" + t + ")", x.inside(t), -1);
            due.is("new: waitsFor(" + t + ")", x.waitsFor(t), -1);
        }
        due.is("a refused step begins nothing", x.count(5), 0);
    }

    private static void begunRefusesBeforeAllElse() {
        ClassStarter x = new ClassStarter();
        for (int c = 0; c < 8; c++) {
            x.declare(-1, c < 3, false, 0);
        }
        x.inherit(7, 0, true);
        x.inherit(7, 1, true);
        for (int k = 0; k < 5; k++) {
            x.act(7, 5, k, 0);
        }
        for (int k = 0; k < 3; k++) {
            x.plan(0, 5, k);
        }
        due.is("full: declare", x.declare(-1, false, false, 0), -2);
        due.is("full: inherit", x.inherit(7, 2, true), -2);
        due.is("full: act", x.act(7, 5, 0, 0), -2);
        due.is("full: plan", x.plan(0, 5, 0), -2);
        due.is("begin", x.step(0), 1);
        due.is("begun and full: declare", x.declare(-1, false, false, 0), -1);
        due.is("begun and full: inherit", x.inherit(7, 2, true), -1);
        due.is("begun and full: act", x.act(7, 5, 0, 0), -1);
        due.is("begun and full: plan", x.plan(0, 5, 0), -1);
        due.is("begun: inherit", x.inherit(6, 0, true), -1);
        due.is("begun: act", x.act(6, 5, 0, 0), -1);
        due.is("begun: plan", x.plan(1, 5, 0), -1);
        due.is("begun: thread 1's plan is still empty", x.result(1), 0);
        due.is("reset", x.reset(), 1);
        due.is("not begun: inherit", x.inherit(6, 0, true), 1);
        due.is("not begun: act", x.act(6, 5, 0, 0), 1);
        due.is("not begun: plan", x.plan(1, 5, 0), 1);
        due.is("not begun: thread 1's plan is not empty", x.result(1), -1);
    }

    private static void declareAnswersNumbers() {
        ClassStarter x = new ClassStarter();
        due.is("first", x.declare(-1, false, false, 5), 0);
        due.is("subclass", x.declare(0, false, true, MIN), 1);
        due.is("interface", x.declare(-1, true, true, MAX), 2);
        due.is("subclass of a subclass", x.declare(1, false, false, 0), 3);
        due.is("classes", x.count(0), 4);
        for (int c = 0; c < 4; c++) {
            due.is("state of " + c, x.state(c), 0);
            due.is("static 0 of " + c, x.statics(c, 0), 0);
        }
        due.is("the constant of 1", x.statics(1, 1), MIN);
        due.is("the constant of 2", x.statics(2, 1), MAX);
    }

    private static void declareRefusesWrongSuperclasses() {
        ClassStarter x = new ClassStarter();
        due.is("superclass 0 of the first", x.declare(0, false, false, 0), -1);
        x.declare(-1, false, false, 0);
        x.declare(-1, true, false, 0);
        due.is("superclass -2", x.declare(-2, false, false, 0), -1);
        due.is("superclass MIN", x.declare(MIN, false, false, 0), -1);
        due.is("superclass MAX", x.declare(MAX, false, false, 0), -1);
        due.is("superclass itself", x.declare(2, false, false, 0), -1);
        due.is("superclass an interface", x.declare(1, false, false, 0), -1);
        due.is("an interface with a superclass", x.declare(0, true, false, 0), -1);
        due.is("an interface with an interface above", x.declare(1, true, false, 0), -1);
        due.is("an interface with -2", x.declare(-2, true, false, 0), -1);
        due.is("classes", x.count(0), 2);
        due.is("nothing was declared", x.state(2), -1);
        due.is("the next number", x.declare(0, false, false, 0), 2);
    }

    private static void declareIsFullAtEight() {
        ClassStarter x = new ClassStarter();
        for (int c = 0; c < 8; c++) {
            due.is("declare " + c, x.declare(c - 1, false, true, c), c);
        }
        due.is("a ninth", x.declare(-1, false, true, 99), -2);
        due.is("a ninth subclass", x.declare(7, false, true, 99), -2);
        due.is("a ninth interface", x.declare(-1, true, true, 99), -2);
        due.is("a wrong ninth", x.declare(8, false, false, 0), -1);
        due.is("a wrong ninth interface", x.declare(0, true, false, 0), -1);
        due.is("classes", x.count(0), 8);
        due.is("the eighth stays", x.statics(7, 1), 7);
        due.is("there is no ninth", x.statics(8, 1), ClassStarter.NONE);
    }

    private static void declareLooksAtValueOnlyForConstants() {
        ClassStarter x = new ClassStarter();
        x.declare(-1, false, false, 41);
        due.is("static 1 without constant", x.statics(0, 1), 0);
    }

    private static void inheritAnswersCounts() {
        ClassStarter x = new ClassStarter();
        x.declare(-1, true, false, 0);
        x.declare(-1, true, false, 0);
        x.declare(-1, false, false, 0);
        x.declare(2, false, false, 0);
        due.is("one", x.inherit(2, 1, false), 1);
        due.is("two", x.inherit(2, 0, true), 2);
        due.is("what the superclass has counts for nothing", x.inherit(3, 1, true), 1);
        x.plan(0, 0, 2);
        due.is("use", x.step(0), 1);
        due.is("only the defaulted one is used", x.step(0), 1);
        due.is("inside it", x.inside(0), 0);
    }

    private static void inheritRefusesWrongClasses() {
        ClassStarter x = new ClassStarter();
        x.declare(-1, true, false, 0);
        x.declare(-1, false, false, 0);
        x.declare(-1, true, false, 0);
        x.declare(-1, false, false, 0);
        int[] noClasses = {-1, 4, 8, MIN, MAX};
        for (int c : noClasses) {
            due.is("inherit(" + c + ", 0)", x.inherit(c, 0, true), -1);
            due.is("inherit(3, " + c + ")", x.inherit(3, c, true), -1);
        }
        due.is("an interface inherits", x.inherit(2, 0, true), -1);
        due.is("no interface", x.inherit(3, 1, true), -1);
        due.is("itself", x.inherit(3, 3, true), -1);
        due.is("a greater one", x.inherit(1, 2, true), -1);
        due.is("a right one", x.inherit(3, 2, true), 1);
        due.is("once more", x.inherit(3, 2, true), -1);
        due.is("once more, not defaulted", x.inherit(3, 2, false), -1);
        due.is("refused ones count for nothing", x.inherit(3, 0, false), 2);
    }

    private static void inheritIsFullAtTwo() {
        ClassStarter x = new ClassStarter();
        for (int i = 0; i < 3; i++) {
            x.declare(-1, true, false, 0);
        }
        x.declare(-1, false, false, 0);
        x.inherit(3, 0, false);
        x.inherit(3, 1, true);
        due.is("a third", x.inherit(3, 2, true), -2);
        due.is("one that it has", x.inherit(3, 0, true), -1);
        due.is("one that is none", x.inherit(3, 3, true), -1);
        x.plan(0, 0, 3);
        int steps = 0;
        while (x.step(0) == 1) {
            steps++;
        }
        due.is("a full inherit adds no part", steps, 4);
        due.is("the third was not used", x.state(2), 0);
    }

    private static void actAnswersCounts() {
        ClassStarter x = new ClassStarter();
        x.declare(-1, false, false, 0);
        x.declare(-1, true, false, 0);
        for (int k = 1; k <= 5; k++) {
            due.is("class: action " + k, x.act(0, 5, k, 0), k);
        }
        due.is("an interface has an initialiser too", x.act(1, 1, 0, 3), 1);
    }

    private static void actLooksAtOperands() {
        for (int action = -1; action <= 7; action++) {
            int[] numbers = {MIN, -1, 0, 1, 2, 7, 8, 9, 10, MAX};
            for (int a : numbers) {
                for (int b : numbers) {
                    ClassStarter x = new ClassStarter();
                    x.declare(-1, false, false, 0);
                    String call = "act(0, " + action + ", " + a + ", " + b + ")";
                    boolean right = isRight(action, a, b);
                    due.is(call, x.act(0, action, a, b), right ? 1 : -1);
                    due.is(call + " and one more", x.act(0, 5, 0, 0), right ? 2 : 1);
                }
            }
        }
        ClassStarter x = new ClassStarter();
        x.declare(-1, false, false, 0);
        due.is("action MIN", x.act(0, MIN, 0, 0), -1);
        due.is("action MAX", x.act(0, MAX, 0, 0), -1);
        int[] noClasses = {-1, 1, 7, 8, MIN, MAX};
        for (int c : noClasses) {
            due.is("act(" + c + ", ..)", x.act(c, 5, 0, 0), -1);
        }
    }

    private static boolean isRight(int action, int a, int b) {
        return switch (action) {
            case 0 -> a >= 0 && a <= 7;
            case 2 -> a >= 0 && a <= 1 && b >= 0 && b <= 7;
            case 3, 4 -> a >= 0 && a <= 9;
            case 1, 5, 6 -> true;
            default -> false;
        };
    }

    private static void actIsFullAtFive() {
        ClassStarter x = new ClassStarter();
        x.declare(-1, true, false, 0);
        x.declare(-1, false, false, 0);
        x.inherit(1, 0, true);
        for (int k = 1; k <= 5; k++) {
            due.is("the uses ahead are no actions: " + k, x.act(1, 5, k, 0), k);
        }
        due.is("a sixth", x.act(1, 5, 6, 0), -2);
        due.is("a wrong sixth", x.act(1, 0, 8, 0), -1);
        due.is("the other class has room", x.act(0, 5, 9, 0), 1);
        x.plan(0, 0, 1);
        while (x.step(0) == 1) {
            due.holds("steps end", x.count(1) < 100);
        }
        due.is("logged in all", x.count(2), 6);
        for (int k = 1; k <= 5; k++) {
            due.is("logged by action " + k, x.logged(k), k);
        }
    }

    private static void planAnswersCounts() {
        ClassStarter x = new ClassStarter();
        for (int t = 0; t < 3; t++) {
            due.is("first of " + t, x.plan(t, 0, 7), 1);
            due.is("second of " + t, x.plan(t, 6, MIN), 2);
            due.is("third of " + t, x.plan(t, 5, MAX), 3);
        }
    }

    private static void planLooksAtOperands() {
        int[] actions = {MIN, -1, 1, 2, 3, 4, 7, MAX};
        int[] numbers = {MIN, -1, 0, 7, 8, MAX};
        for (int a : numbers) {
            ClassStarter x = new ClassStarter();
            for (int action : actions) {
                due.is("plan(0, " + action + ", " + a + ")", x.plan(0, action, a), -1);
            }
            boolean isClass = a == 0 || a == 7;
            due.is("plan(0, 0, " + a + ")", x.plan(0, 0, a), isClass ? 1 : -1);
            due.is("plan(1, 5, " + a + ")", x.plan(1, 5, a), 1);
            due.is("plan(1, 6, " + a + ")", x.plan(1, 6, a), 2);
            due.is("refused ones add nothing", x.result(0), isClass ? -1 : 0);
        }
        ClassStarter x = new ClassStarter();
        int[] noThreads = {MIN, -1, 3, MAX};
        for (int t : noThreads) {
            due.is("plan(" + t + ", 5, 0)", x.plan(t, 5, 0), -1);
        }
    }

    private static void planIsFullAtThree() {
        ClassStarter x = new ClassStarter();
        for (int k = 1; k <= 3; k++) {
            due.is("plan " + k, x.plan(2, 5, k), k);
        }
        due.is("a fourth", x.plan(2, 5, 4), -2);
        due.is("a wrong fourth", x.plan(2, 1, 4), -1);
        due.is("a wrong class", x.plan(2, 0, 8), -1);
        due.is("the other thread has room", x.plan(1, 5, 4), 1);
        while (x.step(2) == 1) {
            due.holds("steps end", x.count(1) < 100);
        }
        due.is("steps", x.count(1), 3);
        due.is("logged last", x.logged(2), 3);
    }
}
