/** Promises 14 to 16, explore, outcome and count, for ordinary programs. */
public final class ExploringTest {
    private static final long NONE = ClassStarter.NONE;
    private static final Due due = new Due("ExploringTest");

    public static void main(String[] args) {
        circleOfTwo();
        stuckOfThree();
        ordersWithWaiting();
        everyChangeIsSeen();
        manyOutcomes();
        outcomesAreSorted();
        due.end();
    }

    private static ClassStarter circle() {
        ClassStarter x = new ClassStarter();
        for (int c = 0; c < 2; c++) {
            x.declare(-1, false, false, 0);
            x.act(c, 0, 1 - c, 0);
            x.plan(c, 0, c);
        }
        return x;
    }

    private static void circleOfTwo() {
        ClassStarter x = circle();
        due.is("explore", x.explore(), 2);
        due.is("all end", x.outcome(0), 0);
        due.is("two are stuck", x.outcome(1), 505000);
        due.is("no third", x.outcome(2), NONE);
        due.is("stuck orders", x.count(4), 2);
    }

    private static void stuckOfThree() {
        ClassStarter x = circle();
        x.plan(2, 0, 7);
        due.is("explore", x.explore(), 2);
        due.is("missing", x.outcome(0), 21);
        due.is("missing and stuck", x.outcome(1), 505021);
    }

    /** One begins the class and the other waits until it is done: an order for each who is first. */
    private static void ordersWithWaiting() {
        ClassStarter x = new ClassStarter();
        x.declare(-1, false, false, 0);
        x.plan(0, 0, 0);
        x.plan(1, 0, 0);
        due.is("explore", x.explore(), 1);
        due.is("orders", x.count(3), 2);
        x.plan(2, 5, 0);
        due.is("explore with one more step", x.explore(), 1);
        due.is("orders", x.count(3), 8);
        due.is("stuck", x.count(4), 0);
    }

    private static void everyChangeIsSeen() {
        ClassStarter x = new ClassStarter();
        x.declare(-1, true, false, 0);
        x.explore();
        due.is("declare", x.declare(-1, false, false, 0), 1);
        due.is("dropped by declare", x.outcome(0), NONE);
        x.explore();
        due.is("kept", x.outcome(0), 0);
        due.is("inherit", x.inherit(1, 0, false), 1);
        due.is("dropped by inherit", x.outcome(0), NONE);
        x.explore();
        due.is("kept", x.outcome(0), 0);
        due.is("act", x.act(1, 3, 3, 0), 1);
        due.is("dropped by act", x.outcome(0), NONE);
        x.explore();
        due.is("kept", x.outcome(0), 0);
        due.is("plan", x.plan(1, 0, 1), 1);
        due.is("dropped by plan", x.outcome(0), NONE);
        due.is("explore", x.explore(), 1);
        due.is("seen anew", x.outcome(0), 3400);
        x.act(0, 4, 2, 0);
        x.explore();
        due.is("an action of a class that is not used", x.outcome(0), 3400);
        x.declare(-1, false, false, 0);
        x.inherit(2, 0, true);
        x.plan(0, 0, 2);
        x.explore();
        due.is("a defaulted interface", x.outcome(0), 133400);
    }

    /** Circles of uses with exceptions in them, which end in more ways than the row has room for at first. */
    private static void manyOutcomes() {
        ClassStarter x = new ClassStarter();
        Model same = new Model();
        int[] superclasses = {-1, 0, 0, -1, -1};
        for (int superclass : superclasses) {
            due.is("declare", x.declare(superclass, false, false, 0), same.declare(superclass, false, false, 0));
        }
        int[][] actions = {{0, 0, 2}, {0, 0, 0}, {1, 0, 4}, {1, 3, 6}, {2, 0, 1}, {3, 0, 4}, {3, 0, 1}, {3, 3, 5}, {4, 0, 3}};
        for (int[] action : actions) {
            due.is("act", x.act(action[0], action[1], action[2], 0), same.act(action[0], action[1], action[2], 0));
        }
        int[][] plans = {{0, 0, 2}, {1, 0, 0}, {1, 0, 3}, {2, 0, 1}, {2, 6, 0}, {2, 6, 0}};
        for (int[] plan : plans) {
            due.is("plan", x.plan(plan[0], plan[1], plan[2]), same.plan(plan[0], plan[1], plan[2]));
        }
        due.is("the model's explore", same.explore(), 10);
        due.is("explore", x.explore(), 10);
        for (int k = 0; k <= 10; k++) {
            due.is("outcome(" + k + ")", x.outcome(k), same.outcome(k));
        }
        due.is("orders", x.count(3), same.count(3));
        due.is("stuck", x.count(4), same.count(4));
    }

    private static void outcomesAreSorted() {
        ClassStarter x = new ClassStarter();
        for (int c = 0; c < 3; c++) {
            x.declare(-1, false, false, 0);
            x.act(c, c == 1 ? 4 : 3, c + 5, 0);
        }
        x.act(0, 0, 1, 0);
        x.plan(0, 0, 1);
        x.plan(1, 0, 0);
        x.plan(1, 0, 1);
        x.plan(2, 6, 0);
        x.plan(2, 0, 0);
        x.plan(2, 0, 1);
        int many = x.explore();
        due.holds("some outcomes: " + many, many > 3);
        for (int k = 1; k < many; k++) {
            due.holds("ascending at " + k, x.outcome(k - 1) < x.outcome(k));
        }
        due.holds("the last is there", x.outcome(many - 1) < 1000000);
        due.is("none behind the last", x.outcome(many), NONE);
    }
}
