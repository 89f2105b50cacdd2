/** Promises 14 to 16: explore, outcome, count. */
public final class ExploringTest {
    private static final long NONE = ClassStarter.NONE;
    private static final Due due = new Due("ExploringTest");

    public static void main(String[] args) {
        nothingToDo();
        circleOfTwo();
        stuckOfThree();
        ordersOfFreeSteps();
        ordersWithWaiting();
        presentStateStays();
        outcomesStayUntilAChange();
        everyChangeDropsOutcomes();
        exactlyThreeThousand();
        oneMoreThanThreeThousand();
        tooManyAndStuck();
        fewAfterTooMany();
        firstTakesTheInit();
        manyOutcomes();
        longOrders();
        outcomesAreSorted();
        due.end();
    }

    private static void nothingToDo() {
        ClassStarter x = new ClassStarter();
        due.is("none before", x.outcome(0), NONE);
        due.is("explore", x.explore(), 1);
        due.is("outcome(0)", x.outcome(0), 0);
        due.is("outcome(1)", x.outcome(1), NONE);
        due.is("outcome(-1)", x.outcome(-1), NONE);
        due.is("outcome(MIN)", x.outcome(Integer.MIN_VALUE), NONE);
        due.is("outcome(MAX)", x.outcome(Integer.MAX_VALUE), NONE);
        due.is("orders", x.count(3), 1);
        due.is("stuck", x.count(4), 0);
        due.is("not begun", x.count(5), 0);
    }

    private static ClassStarter circle() {
        ClassStarter x = new ClassStarter();
        for (int c = 0; c < 2; c++) {
            x.declare(-1, false, false, 0);
            x.act(c, 0, 1 - c, 0);
            x.plan(c, 0, c);
        }
        return x;
    }

    private static void circleOfTwo() {
        ClassStarter x = circle();
        due.is("explore", x.explore(), 2);
        due.is("all end", x.outcome(0), 0);
        due.is("two are stuck", x.outcome(1), 505000);
        due.is("no third", x.outcome(2), NONE);
        due.is("stuck orders", x.count(4), 2);
    }

    private static void stuckOfThree() {
        ClassStarter x = circle();
        x.plan(2, 0, 7);
        due.is("explore", x.explore(), 2);
        due.is("missing", x.outcome(0), 21);
        due.is("missing and stuck", x.outcome(1), 505021);
    }

    private static void ordersOfFreeSteps() {
        int[][] lengthsAndOrders = {{1, 0, 0, 1}, {1, 1, 0, 2}, {2, 2, 0, 6}, {1, 1, 1, 6}, {3, 0, 2, 10}, {3, 3, 3, 1680}};
        for (int[] row : lengthsAndOrders) {
            ClassStarter x = new ClassStarter();
            for (int t = 0; t < 3; t++) {
                for (int k = 0; k < row[t]; k++) {
                    x.plan(t, 5, k);
                }
            }
            due.is("explore", x.explore(), 1);
            due.is("orders of " + row[0] + ", " + row[1] + " and " + row[2], x.count(3), row[3]);
        }
    }

    /** One begins the class and the other waits until it is done: an order for each who is first. */
    private static void ordersWithWaiting() {
        ClassStarter x = new ClassStarter();
        x.declare(-1, false, false, 0);
        x.plan(0, 0, 0);
        x.plan(1, 0, 0);
        due.is("explore", x.explore(), 1);
        due.is("orders", x.count(3), 2);
        x.plan(2, 5, 0);
        due.is("explore with one more step", x.explore(), 1);
        due.is("orders", x.count(3), 8);
        due.is("stuck", x.count(4), 0);
    }

    private static void presentStateStays() {
        ClassStarter x = circle();
        x.act(0, 5, 3, 0);
        x.act(0, 1, 0, 4);
        x.step(0);
        x.step(0);
        x.step(0);
        x.step(0);
        x.step(0);
        x.step(0);
        due.is("before", x.statics(0, 0), 4);
        due.is("explore", x.explore(), 2);
        due.is("steps", x.count(1), 6);
        due.is("begun", x.count(5), 1);
        due.is("static", x.statics(0, 0), 4);
        due.is("log", x.logged(0), 3);
        due.is("log size", x.count(2), 1);
        due.is("class 0", x.state(0), 4);
        due.is("class 1", x.state(1), 1);
        due.is("inside", x.inside(0), 0);
        due.is("explore begins from the start", x.outcome(1), 505000);
        due.is("declare is still refused", x.declare(-1, false, false, 0), -1);
        due.is("a refused change drops nothing", x.outcome(1), 505000);
        due.is("a step goes on", x.step(0), 1);
        due.is("a step drops nothing", x.outcome(1), 505000);
        due.is("reset", x.reset(), 7);
        due.is("a reset drops nothing", x.outcome(1), 505000);
        due.is("explore again", x.explore(), 2);
    }

    private static void outcomesStayUntilAChange() {
        ClassStarter x = circle();
        x.explore();
        int orders = x.count(3);
        due.is("refused", x.declare(5, false, false, 0), -1);
        due.is("refused", x.inherit(0, 0, true), -1);
        due.is("refused", x.act(2, 5, 0, 0), -1);
        due.is("refused", x.plan(3, 5, 0), -1);
        due.is("kept after refused calls", x.outcome(1), 505000);
        for (int k = 0; k < 2; k++) {
            x.plan(2, 5, 0);
        }
        due.is("dropped", x.outcome(0), NONE);
        due.is("the last explore's orders stay", x.count(3), orders);
        due.is("the last explore's stuck orders stay", x.count(4), 2);
        x.plan(2, 5, 0);
        x.explore();
        orders = x.count(3);
        due.is("full", x.plan(2, 5, 0), -2);
        due.is("kept after a full call", x.outcome(1), 505000);
        due.is("explore again", x.explore(), 2);
        due.is("the same orders", x.count(3), orders);
    }

    private static void everyChangeDropsOutcomes() {
        ClassStarter x = new ClassStarter();
        x.declare(-1, true, false, 0);
        x.explore();
        due.is("declare", x.declare(-1, false, false, 0), 1);
        due.is("dropped by declare", x.outcome(0), NONE);
        x.explore();
        due.is("kept", x.outcome(0), 0);
        due.is("inherit", x.inherit(1, 0, false), 1);
        due.is("dropped by inherit", x.outcome(0), NONE);
        x.explore();
        due.is("kept", x.outcome(0), 0);
        due.is("act", x.act(1, 3, 3, 0), 1);
        due.is("dropped by act", x.outcome(0), NONE);
        x.explore();
        due.is("kept", x.outcome(0), 0);
        due.is("plan", x.plan(1, 0, 1), 1);
        due.is("dropped by plan", x.outcome(0), NONE);
        due.is("explore", x.explore(), 1);
        due.is("seen anew", x.outcome(0), 3400);
        x.act(0, 4, 2, 0);
        x.explore();
        due.is("an action of a class that is not used", x.outcome(0), 3400);
        x.declare(-1, false, false, 0);
        x.inherit(2, 0, true);
        x.plan(0, 0, 2);
        x.explore();
        due.is("a defaulted interface", x.outcome(0), 133400);
    }

    private static void exactlyThreeThousand() {
        ClassStarter x = new ClassStarter();
        x.declare(-1, false, false, 0);
        x.declare(-1, false, false, 0);
        x.plan(0, 0, 1);
        x.plan(0, 0, 0);
        x.plan(0, 0, 1);
        x.plan(1, 6, 1);
        x.plan(1, 6, 1);
        x.plan(1, 5, 1);
        x.plan(2, 0, 0);
        x.plan(2, 0, 0);
        due.is("explore", x.explore(), 1);
        due.is("orders", x.count(3), 3000);
        due.is("outcome", x.outcome(0), 0);
    }

    private static void oneMoreThanThreeThousand() {
        ClassStarter x = new ClassStarter();
        x.declare(-1, false, false, 0);
        x.declare(-1, false, false, 0);
        x.act(1, 0, 2, 0);
        x.act(1, 0, 0, 0);
        x.act(1, 0, 2, 0);
        x.declare(-1, false, false, 0);
        x.plan(0, 5, 1);
        x.plan(0, 0, 1);
        x.plan(1, 0, 0);
        x.plan(1, 0, 1);
        x.plan(1, 5, 1);
        x.plan(2, 5, 1);
        due.is("few orders before", x.explore(), 1);
        x.plan(2, 0, 2);
        due.is("explore", x.explore(), -2);
        due.is("nothing found", x.outcome(0), NONE);
        due.is("no orders", x.count(3), 0);
        due.is("none stuck", x.count(4), 0);
        due.is("explore again", x.explore(), -2);
        due.is("no orders again", x.count(3), 0);
        due.is("not begun", x.count(5), 0);
        due.is("a full explore leaves the state", x.step(1), 1);
        due.is("busy", x.state(0), 5);
    }

    private static void tooManyAndStuck() {
        ClassStarter x = circle();
        due.is("few", x.explore(), 2);
        for (int k = 0; k < 2; k++) {
            x.plan(0, 5, k);
            x.plan(1, 5, k);
            x.plan(2, 5, k);
        }
        due.is("many", x.explore(), 2);
        due.is("some stuck", x.count(4), 12);
        x.plan(2, 5, 2);
        due.is("too many", x.explore(), -2);
        due.is("no orders", x.count(3), 0);
        due.is("none stuck", x.count(4), 0);
    }

    /** Two long initialisers go through too many orders; with an interface that fails one ends early. */
    private static void fewAfterTooMany() {
        ClassStarter x = new ClassStarter();
        x.declare(-1, true, false, 0);
        x.act(0, 4, 7, 0);
        for (int t = 0; t < 2; t++) {
            x.declare(-1, false, false, 0);
            for (int k = 0; k < 5; k++) {
                x.act(t + 1, 5, k, 0);
            }
            x.plan(t, 0, t + 1);
        }
        due.is("too many", x.explore(), -2);
        due.is("one fails", x.inherit(1, 0, true), 1);
        due.is("none after full", x.count(3), 0);
        due.is("few", x.explore(), 1);
        due.is("five steps among twelve", x.count(3), 792);
        due.is("error 7", x.outcome(0), 180000);
        due.is("nothing was stepped", x.count(1), 0);
        due.is("both fail", x.inherit(2, 0, true), 1);
        due.is("the orders of the last explore", x.count(3), 792);
        due.is("few", x.explore(), 2);
        due.is("thread 0 was first", x.outcome(0), 182200);
        due.is("thread 1 was first", x.outcome(1), 221800);
    }

    /** Circles of uses with exceptions in them, which end in more ways than the row has room for at first. */
    private static void manyOutcomes() {
        ClassStarter x = new ClassStarter();
        Model same = new Model();
        int[] superclasses = {-1, 0, 0, -1, -1};
        for (int superclass : superclasses) {
            due.is("declare", x.declare(superclass, false, false, 0), same.declare(superclass, false, false, 0));
        }
        int[][] actions = {{0, 0, 2}, {0, 0, 0}, {1, 0, 4}, {1, 3, 6}, {2, 0, 1}, {3, 0, 4}, {3, 0, 1}, {3, 3, 5}, {4, 0, 3}};
        for (int[] action : actions) {
            due.is("act", x.act(action[0], action[1], action[2], 0), same.act(action[0], action[1], action[2], 0));
        }
        int[][] plans = {{0, 0, 2}, {1, 0, 0}, {1, 0, 3}, {2, 0, 1}, {2, 6, 0}, {2, 6, 0}};
        for (int[] plan : plans) {
            due.is("plan", x.plan(plan[0], plan[1], plan[2]), same.plan(plan[0], plan[1], plan[2]));
        }
        due.is("the model's explore", same.explore(), 10);
        due.is("explore", x.explore(), 10);
        for (int k = 0; k <= 10; k++) {
            due.is("outcome(" + k + ")", x.outcome(k), same.outcome(k));
        }
        due.is("orders", x.count(3), same.count(3));
        due.is("stuck", x.count(4), same.count(4));
    }

    /** Whoever is first gets the init, the others find it broken. */
    private static void firstTakesTheInit() {
        ClassStarter x = new ClassStarter();
        x.declare(-1, false, false, 0);
        x.act(0, 3, 1, 0);
        x.plan(0, 0, 0);
        x.plan(1, 0, 0);
        x.plan(2, 0, 0);
        due.is("explore", x.explore(), 3);
        due.is("thread 2 was first", x.outcome(0), 222232);
        due.is("thread 1 was first", x.outcome(1), 223222);
        due.is("thread 0 was first", x.outcome(2), 322222);
        due.is("no more", x.outcome(3), NONE);
    }

    /** One thread goes through all the classes, the others step once: the orders are as long as can be. */
    private static void longOrders() {
        ClassStarter x = new ClassStarter();
        for (int c = 0; c < 8; c++) {
            x.declare(c < 3 ? -1 : c - 1, c < 2, false, 0);
            if (c >= 2) {
                x.inherit(c, 0, true);
                x.inherit(c, 1, true);
            }
            for (int k = 0; k < 5; k++) {
                x.act(c, 6, 0, 0);
            }
        }
        x.plan(0, 0, 7);
        x.plan(0, 5, 1);
        x.plan(0, 5, 1);
        x.plan(1, 5, 1);
        due.is("explore", x.explore(), 1);
        due.is("orders", x.count(3), 69);
        x.plan(1, 5, 1);
        due.is("explore", x.explore(), 1);
        due.is("orders", x.count(3), 70 * 69 / 2);
        x.plan(1, 5, 1);
        due.is("too many", x.explore(), -2);
    }

    private static void outcomesAreSorted() {
        ClassStarter x = new ClassStarter();
        for (int c = 0; c < 3; c++) {
            x.declare(-1, false, false, 0);
            x.act(c, c == 1 ? 4 : 3, c + 5, 0);
        }
        x.act(0, 0, 1, 0);
        x.plan(0, 0, 1);
        x.plan(1, 0, 0);
        x.plan(1, 0, 1);
        x.plan(2, 6, 0);
        x.plan(2, 0, 0);
        x.plan(2, 0, 1);
        int many = x.explore();
        due.holds("some outcomes: " + many, many > 3);
        for (int k = 1; k < many; k++) {
            due.holds("ascending at " + k, x.outcome(k - 1) < x.outcome(k));
        }
        due.holds("the last is there", x.outcome(many - 1) < 1000000);
        due.is("none behind the last", x.outcome(many), NONE);
    }
}
