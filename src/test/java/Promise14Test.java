/** Promise 14, explore: each boundary that the document names, by its sentence. */
public final class Promise14Test {
    private static final long NONE = ClassStarter.NONE;
    private static final Due due = new Due("Promise 14, explore");

    public static void main(String[] args) {
        nothingToDo();
        oneThreadAlone();
        everyThreadIsLet();
        endedAndWaitingAreNotLet();
        fromTheStart();
        presentStateStays();
        differentOnes();
        placesOfTheResults();
        stuckInEachPlace();
        eachResult();
        exactlyThreeThousand();
        oneMore();
        farMore();
        nothingWasFound();
        fullLeavesTheState();
        fewerAfterFull();
        again();
        longestOrders();
        due.end();
    }

    private static ClassStarter logs(int first, int second, int third) {
        ClassStarter x = new ClassStarter();
        int[] lengths = {first, second, third};
        for (int t = 0; t <= 2; t++) {
            for (int k = 0; k < lengths[t]; k++) {
                x.plan(t, 5, k);
            }
        }
        return x;
    }

    /** Threads 0 and 1 use each other's class. */
    private static ClassStarter circle() {
        ClassStarter x = new ClassStarter();
        for (int c = 0; c <= 1; c++) {
            x.declare(-1, false, false, 0);
            x.act(c, 0, 1 - c, 0);
            x.plan(c, 0, c);
        }
        return x;
    }

    /** 3000 orders. */
    private static ClassStarter threeThousand() {
        ClassStarter x = new ClassStarter();
        x.declare(-1, false, false, 0);
        x.declare(-1, false, false, 0);
        int[][] plans = {{0, 0, 1}, {0, 0, 0}, {0, 0, 1}, {1, 6, 1}, {1, 6, 1}, {1, 5, 1}, {2, 0, 0}, {2, 0, 0}};
        for (int[] plan : plans) {
            x.plan(plan[0], plan[1], plan[2]);
        }
        return x;
    }

    /** 3001 orders, when thread 2 uses class 2 as well. */
    private static ClassStarter nearlyOneMore() {
        ClassStarter x = new ClassStarter();
        for (int c = 0; c <= 2; c++) {
            x.declare(-1, false, false, 0);
        }
        x.act(1, 0, 2, 0);
        x.act(1, 0, 0, 0);
        x.act(1, 0, 2, 0);
        int[][] plans = {{0, 5, 1}, {0, 0, 1}, {1, 0, 0}, {1, 0, 1}, {1, 5, 1}, {2, 5, 1}};
        for (int[] plan : plans) {
            x.plan(plan[0], plan[1], plan[2]);
        }
        return x;
    }

    private static void nothingToDo() {
        due.by("every thread that can make a STEP .. is let do so, until none can");
        ClassStarter x = new ClassStarter();
        due.is("explore()", x.explore(), 1);
        due.is("outcome(0)", x.outcome(0), 0);
        due.is("orders", x.count(3), 1);
        x.declare(-1, false, false, 0);
        x.act(0, 3, 0, 0);
        due.is("explore() with a class that none uses", x.explore(), 1);
        due.is("outcome(0)", x.outcome(0), 0);
    }

    private static void oneThreadAlone() {
        due.by("Goes through all orders of STEPs");
        for (int length = 1; length <= 3; length++) {
            ClassStarter x = logs(0, length, 0);
            due.is("explore()", x.explore(), 1);
            due.is("orders", x.count(3), 1);
        }
    }

    private static void everyThreadIsLet() {
        due.by("in each state every thread that can make a STEP .. is let do so");
        int[][] lengthsAndOrders = {{1, 1, 0, 2}, {0, 1, 1, 2}, {2, 0, 2, 6}, {1, 1, 1, 6}, {3, 2, 0, 10},
            {3, 3, 2, 560}, {3, 3, 3, 1680}};
        for (int[] row : lengthsAndOrders) {
            ClassStarter x = logs(row[0], row[1], row[2]);
            due.is("explore()", x.explore(), 1);
            due.is("orders of " + row[0] + ", " + row[1] + ", " + row[2], x.count(3), row[3]);
        }
    }

    private static void endedAndWaitingAreNotLet() {
        due.by("(has not ENDED and does not WAIT)");
        ClassStarter x = new ClassStarter();
        x.declare(-1, false, false, 0);
        x.plan(0, 0, 0);
        x.plan(1, 0, 0);
        due.is("explore()", x.explore(), 1);
        due.is("one waits until the other is out", x.count(3), 2);
        x.plan(2, 0, 0);
        due.is("explore()", x.explore(), 1);
        due.is("two wait, then go in either order", x.count(3), 6);
        x.act(0, 0, 7, 0);
        x.plan(0, 5, 1);
        due.is("explore()", x.explore(), 3);
        due.is("a thread that ended with a fault goes on no more", x.count(3), 6);
    }

    private static void fromTheStart() {
        due.by("from the start (as after reset");
        ClassStarter x = circle();
        int[] order = {0, 1};
        for (int t : order) {
            due.is("explore()", x.explore(), 2);
            due.is("orders", x.count(3), 6);
            x.step(t);
        }
        due.is("stuck now", x.result(0), 50);
        due.is("explore()", x.explore(), 2);
        x.reset();
        while (x.step(1) == 1) {
            due.holds("steps end", x.count(1) < 20);
        }
        due.is("explore()", x.explore(), 2);
        due.is("outcome(1)", x.outcome(1), 505000);
        due.is("orders", x.count(3), 6);
    }

    private static void presentStateStays() {
        due.by("the present state stays");
        ClassStarter x = circle();
        x.act(0, 5, 3, 0);
        x.act(0, 1, 0, 4);
        x.act(1, 4, 5, 0);
        x.explore();
        due.is("begun", x.count(5), 0);
        int[] order = {0, 0, 0, 0, 0, 0, 1};
        for (int t : order) {
            x.explore();
            String before = Picture.of(x);
            x.explore();
            due.same("after explore()", Picture.of(x), before);
            due.is("step(" + t + ")", x.step(t), 1);
        }
        due.is("error 5", x.result(0), 16);
        due.is("broken", x.result(1), 22);
    }

    private static void differentOnes() {
        due.by("How many different OUTCOMES there are");
        ClassStarter x = new ClassStarter();
        x.declare(-1, false, false, 0);
        x.act(0, 3, 1, 0);
        for (int t = 0; t <= 2; t++) {
            x.plan(t, 0, 0);
        }
        due.is("explore()", x.explore(), 3);
        due.is("in two orders each", x.count(3), 6);
        due.is("thread 2 was first", x.outcome(0), 222232);
        due.is("thread 1 was first", x.outcome(1), 223222);
        due.is("thread 0 was first", x.outcome(2), 322222);
    }

    private static void placesOfTheResults() {
        due.by("as 10000 * that of thread 0 + 100 * that of thread 1 + that of thread 2");
        int[] factors = {10000, 100, 1};
        for (int t = 0; t <= 2; t++) {
            ClassStarter x = new ClassStarter();
            x.declare(-1, false, false, 0);
            x.act(0, 4, 3, 0);
            x.plan(t, 0, 0);
            x.plan((t + 1) % 3, 0, 7);
            due.is("explore()", x.explore(), 1);
            due.is("outcome(0)", x.outcome(0), 14 * factors[t] + 21 * factors[(t + 1) % 3]);
        }
    }

    private static void stuckInEachPlace() {
        due.by("the threads' RESULTS then");
        int[] factors = {10000, 100, 1};
        for (int free = 0; free <= 2; free++) {
            ClassStarter x = new ClassStarter();
            x.declare(-1, false, false, 0);
            x.declare(-1, false, false, 0);
            x.act(0, 0, 1, 0);
            x.act(1, 0, 0, 0);
            x.plan((free + 1) % 3, 0, 0);
            x.plan((free + 2) % 3, 0, 1);
            due.is("explore()", x.explore(), 2);
            due.is("outcome(0)", x.outcome(0), 0);
            due.is("outcome(1)", x.outcome(1), 505050 - 50 * factors[free]);
            due.is("stuck orders", x.count(4), 2);
        }
    }

    private static void eachResult() {
        due.by("the threads' RESULTS then");
        for (int n = 0; n <= 9; n++) {
            ClassStarter x = new ClassStarter();
            x.declare(-1, false, false, 0);
            x.act(0, 4, n, 0);
            x.declare(-1, false, false, 0);
            x.act(1, 3, 9 - n, 0);
            x.plan(0, 0, 0);
            x.plan(2, 0, 1);
            due.is("explore()", x.explore(), 1);
            due.is("outcome(0)", x.outcome(0), 10000 * (11 + n) + 31 + 9 - n);
        }
    }

    private static void exactlyThreeThousand() {
        due.by("If there are more than 3000 orders: FULL");
        ClassStarter x = threeThousand();
        due.is("explore()", x.explore(), 1);
        due.is("orders", x.count(3), 3000);
        due.is("outcome(0)", x.outcome(0), 0);
    }

    private static void oneMore() {
        due.by("If there are more than 3000 orders: FULL");
        ClassStarter x = nearlyOneMore();
        due.is("few", x.explore(), 1);
        x.plan(2, 0, 2);
        due.is("3001", x.explore(), -2);
    }

    /** Three threads that go through classes of their own, with more orders than any count could hold. */
    private static void farMore() {
        due.by("If there are more than 3000 orders: FULL");
        ClassStarter x = new ClassStarter();
        for (int c = 0; c <= 7; c++) {
            x.declare(c < 3 ? -1 : c - 3, false, false, 0);
            for (int k = 0; k < 5; k++) {
                x.act(c, 5, k, 0);
            }
        }
        for (int k = 0; k < 3; k++) {
            for (int t = 0; t <= 2; t++) {
                x.plan(t, 0, t == 2 ? 5 : 6 + t);
            }
        }
        due.is("explore()", x.explore(), -2);
        due.is("explore() again", x.explore(), -2);
    }

    private static void nothingWasFound() {
        due.by("FULL, and nothing was found");
        ClassStarter x = circle();
        due.is("few", x.explore(), 2);
        due.is("found", x.outcome(1), 505000);
        for (int k = 0; k < 2; k++) {
            x.plan(0, 5, k);
            x.plan(1, 5, k);
            x.plan(2, 5, k);
        }
        due.is("many", x.explore(), 2);
        due.is("stuck orders", x.count(4), 12);
        x.plan(2, 5, 2);
        due.is("too many", x.explore(), -2);
        due.is("outcome(0)", x.outcome(0), NONE);
        due.is("outcome(1)", x.outcome(1), NONE);
        due.is("orders", x.count(3), 0);
        due.is("stuck orders", x.count(4), 0);
    }

    private static void fullLeavesTheState() {
        due.by("the present state stays");
        ClassStarter x = nearlyOneMore();
        x.plan(2, 0, 2);
        due.is("explore()", x.explore(), -2);
        due.is("not begun", x.count(5), 0);
        x.step(0);
        x.step(1);
        x.step(2);
        String before = Picture.of(x);
        due.is("explore() begun", x.explore(), -2);
        due.same("after it", Picture.of(x), before);
    }

    /** An interface that fails ends a thread early, so that there are fewer orders than before. */
    private static void fewerAfterFull() {
        due.by("If there are more than 3000 orders: FULL");
        ClassStarter x = new ClassStarter();
        x.declare(-1, true, false, 0);
        x.act(0, 4, 7, 0);
        for (int t = 0; t <= 1; t++) {
            x.declare(-1, false, false, 0);
            for (int k = 0; k < 5; k++) {
                x.act(t + 1, 5, k, 0);
            }
            x.plan(t, 0, t + 1);
        }
        due.is("too many", x.explore(), -2);
        x.inherit(1, 0, true);
        due.is("few", x.explore(), 1);
        due.is("orders", x.count(3), 792);
        due.is("outcome(0)", x.outcome(0), 180000);
    }

    private static void again() {
        due.by("How many different OUTCOMES there are");
        ClassStarter x = circle();
        for (int k = 0; k < 3; k++) {
            due.is("explore()", x.explore(), 2);
            due.is("outcome(0)", x.outcome(0), 0);
            due.is("outcome(1)", x.outcome(1), 505000);
            due.is("outcome(2)", x.outcome(2), NONE);
            due.is("orders", x.count(3), 6);
            due.is("stuck orders", x.count(4), 2);
        }
    }

    /** One thread goes through all the classes with all that they can have: 68 steps. */
    private static void longestOrders() {
        due.by("Goes through all orders of STEPs");
        ClassStarter x = new ClassStarter();
        for (int c = 0; c <= 7; c++) {
            x.declare(c < 3 ? -1 : c - 1, c < 2, false, 0);
            if (c >= 2) {
                x.inherit(c, 0, true);
                x.inherit(c, 1, true);
            }
            for (int k = 0; k < 5; k++) {
                x.act(c, 6, 0, 0);
            }
        }
        x.plan(0, 0, 7);
        x.plan(0, 5, 1);
        x.plan(0, 5, 1);
        due.is("explore()", x.explore(), 1);
        due.is("orders", x.count(3), 1);
        x.plan(1, 5, 1);
        due.is("explore()", x.explore(), 1);
        due.is("orders", x.count(3), 69);
        x.plan(1, 5, 1);
        due.is("explore()", x.explore(), 1);
        due.is("orders", x.count(3), 70 * 69 / 2);
        x.plan(2, 5, 1);
        due.is("explore()", x.explore(), -2);
    }
}
