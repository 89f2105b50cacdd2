/** Promise 15, outcome: each boundary that the document names, by its sentence. */
public final class Promise15Test {
    private static final int MIN = Integer.MIN_VALUE;
    private static final int MAX = Integer.MAX_VALUE;
    private static final long NONE = ClassStarter.NONE;
    private static final Due due = new Due("Promise 15, outcome");

    public static void main(String[] args) {
        noneBefore();
        leastFirst();
        outOfRange();
        noneAfterFull();
        noneAfterDeclare();
        noneAfterInherit();
        noneAfterAct();
        noneAfterPlan();
        refusedCallsKeepThem();
        fullCallsKeepThem();
        otherCallsKeepThem();
        lastExploreCounts();
        manyOutcomes();
        due.end();
    }

    /** An interface, two classes that use each other, and a thread for each class. */
    private static ClassStarter circle() {
        ClassStarter x = new ClassStarter();
        x.declare(-1, true, false, 0);
        for (int t = 0; t <= 1; t++) {
            x.declare(-1, false, false, 0);
            x.act(t + 1, 0, 2 - t, 0);
            x.plan(t, 0, t + 1);
        }
        return x;
    }

    private static ClassStarter explored() {
        ClassStarter x = circle();
        due.is("explore()", x.explore(), 2);
        found(x);
        return x;
    }

    private static void found(ClassStarter x) {
        due.is("outcome(0)", x.outcome(0), 0);
        due.is("outcome(1)", x.outcome(1), 505000);
        due.is("outcome(2)", x.outcome(2), NONE);
    }

    private static void none(ClassStarter x) {
        for (int k = -1; k <= 2; k++) {
            due.is("outcome(" + k + ")", x.outcome(k), NONE);
        }
    }

    private static void noneBefore() {
        due.by("none before");
        none(new ClassStarter());
        ClassStarter x = circle();
        none(x);
        x.step(0);
        none(x);
        x.reset();
        none(x);
    }

    /** The greatest is that of the orders in which thread 0 is first. */
    private static void leastFirst() {
        due.by("The k-th least OUTCOME of the last explore, from 0");
        ClassStarter x = new ClassStarter();
        x.declare(-1, false, false, 0);
        x.act(0, 3, 9, 0);
        for (int t = 0; t <= 2; t++) {
            x.plan(t, 0, 0);
        }
        due.is("explore()", x.explore(), 3);
        long[] sorted = {222240, 224022, 402222};
        for (int k = 0; k < 3; k++) {
            due.is("outcome(" + k + ")", x.outcome(k), sorted[k]);
        }
        due.is("outcome(3)", x.outcome(3), NONE);
    }

    private static void outOfRange() {
        due.by("NONE if there is none");
        ClassStarter x = explored();
        int[] wrong = {MIN, -2, -1, 2, 3, 4, 5, 3000, MAX};
        for (int k : wrong) {
            due.is("outcome(" + k + ")", x.outcome(k), NONE);
        }
    }

    private static void noneAfterFull() {
        due.by("after FULL");
        ClassStarter x = explored();
        for (int k = 0; k < 2; k++) {
            x.plan(0, 5, k);
            x.plan(1, 5, k);
            x.plan(2, 5, k);
        }
        x.plan(2, 5, 2);
        due.is("explore()", x.explore(), -2);
        none(x);
        due.is("explore() again", x.explore(), -2);
        none(x);
    }

    private static void noneAfterDeclare() {
        due.by("after a call of declare .. that was not refused");
        ClassStarter x = explored();
        due.is("a class", x.declare(-1, false, false, 0), 3);
        none(x);
        x.explore();
        found(x);
        due.is("a subclass", x.declare(3, false, true, 0), 4);
        none(x);
        x.explore();
        found(x);
        due.is("an interface", x.declare(-1, true, false, 0), 5);
        none(x);
    }

    private static void noneAfterInherit() {
        due.by("after a call of .. inherit .. that was not refused");
        ClassStarter x = explored();
        due.is("inherit, not defaulted", x.inherit(1, 0, false), 1);
        none(x);
        x.explore();
        found(x);
        due.is("inherit, defaulted", x.inherit(2, 0, true), 1);
        none(x);
    }

    private static void noneAfterAct() {
        due.by("after a call of .. act .. that was not refused");
        for (int action = 0; action <= 6; action++) {
            ClassStarter x = explored();
            due.is("act of a class that none uses", x.act(0, action, 0, 0), 1);
            none(x);
            x.explore();
            found(x);
            due.is("act", x.act(1, action, 0, 0), 2);
            none(x);
        }
    }

    private static void noneAfterPlan() {
        due.by("after a call of .. plan that was not refused");
        int[] actions = {0, 5, 6};
        for (int action : actions) {
            for (int t = 0; t <= 2; t++) {
                ClassStarter x = explored();
                due.is("plan", x.plan(t, action, 0), t == 2 ? 1 : 2);
                none(x);
            }
        }
    }

    private static void refusedCallsKeepThem() {
        due.by("A refused call changes nothing.");
        ClassStarter x = explored();
        due.is("declare", x.declare(0, false, false, 0), -1);
        found(x);
        due.is("inherit", x.inherit(0, 0, true), -1);
        found(x);
        due.is("act", x.act(0, 7, 0, 0), -1);
        found(x);
        due.is("plan", x.plan(0, 1, 0), -1);
        found(x);
        due.is("step", x.step(2), -1);
        found(x);
        x.step(0);
        due.is("declare, begun", x.declare(-1, false, false, 0), -1);
        due.is("inherit, begun", x.inherit(1, 0, true), -1);
        due.is("act, begun", x.act(0, 5, 0, 0), -1);
        due.is("plan, begun", x.plan(0, 5, 0), -1);
        found(x);
    }

    /** A call that finds no room adds nothing: what was found holds yet. */
    private static void fullCallsKeepThem() {
        due.by("after a call of declare, inherit, act or plan that was not refused");
        ClassStarter x = circle();
        x.declare(-1, true, false, 0);
        x.declare(-1, true, false, 0);
        for (int c = 5; c <= 7; c++) {
            x.declare(-1, false, false, 0);
        }
        x.inherit(7, 0, true);
        x.inherit(7, 3, true);
        for (int k = 0; k < 5; k++) {
            x.act(7, 5, k, 0);
        }
        for (int k = 0; k < 3; k++) {
            x.plan(2, 5, k);
        }
        due.is("explore()", x.explore(), 2);
        due.is("declare", x.declare(-1, false, false, 0), -2);
        found(x);
        due.is("inherit", x.inherit(7, 4, true), -2);
        found(x);
        due.is("act", x.act(7, 5, 0, 0), -2);
        found(x);
        due.is("plan", x.plan(2, 5, 0), -2);
        found(x);
    }

    private static void otherCallsKeepThem() {
        due.by("OUTCOME of the last explore");
        ClassStarter x = explored();
        x.step(0);
        found(x);
        x.step(1);
        x.step(0);
        found(x);
        x.reset();
        found(x);
        Picture.of(x);
        found(x);
    }

    private static void lastExploreCounts() {
        due.by("OUTCOME of the last explore");
        ClassStarter x = explored();
        x.plan(2, 0, 7);
        due.is("explore()", x.explore(), 2);
        due.is("outcome(0)", x.outcome(0), 21);
        due.is("outcome(1)", x.outcome(1), 505021);
        x.inherit(1, 0, true);
        x.act(0, 4, 0, 0);
        due.is("explore()", x.explore(), 2);
        due.is("thread 0 was first in class 1", x.outcome(0), 112221);
        due.is("thread 1 was first in class 1", x.outcome(1), 221121);
        due.is("no third", x.outcome(2), NONE);
    }

    /** Circles of uses with exceptions in them, which end in more ways than a short row could hold. */
    private static void manyOutcomes() {
        due.by("The k-th least OUTCOME of the last explore, from 0");
        ClassStarter x = new ClassStarter();
        int[] superclasses = {-1, 0, 0, -1, -1};
        for (int superclass : superclasses) {
            x.declare(superclass, false, false, 0);
        }
        int[][] actions = {{0, 0, 2}, {0, 0, 0}, {1, 0, 4}, {1, 3, 6}, {2, 0, 1}, {3, 0, 4}, {3, 0, 1}, {3, 3, 5}, {4, 0, 3}};
        for (int[] action : actions) {
            x.act(action[0], action[1], action[2], 0);
        }
        int[][] plans = {{0, 0, 2}, {1, 0, 0}, {1, 0, 3}, {2, 0, 1}, {2, 6, 0}, {2, 6, 0}};
        for (int[] plan : plans) {
            x.plan(plan[0], plan[1], plan[2]);
        }
        due.is("explore()", x.explore(), 10);
        for (int k = 1; k < 10; k++) {
            due.holds("outcome(" + k + ") is greater", x.outcome(k) > x.outcome(k - 1));
        }
        due.holds("the last is an outcome", x.outcome(9) <= 505050);
        due.is("outcome(10)", x.outcome(10), NONE);
    }
}
