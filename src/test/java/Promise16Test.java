/** Promise 16, count: each boundary that the document names, by its sentence. */
public final class Promise16Test {
    private static final Due due = new Due("Promise 16, count");

    public static void main(String[] args) {
        outOfRange();
        classes();
        steps();
        logged();
        ordersBefore();
        ordersOfTheLast();
        ordersAfterFull();
        ordersAfterAChange();
        stuckOrders();
        begun();
        due.end();
    }

    private static void outOfRange() {
        due.by("Else REFUSED.");
        int[] wrong = {Integer.MIN_VALUE, -2, -1, 6, 7, Integer.MAX_VALUE};
        ClassStarter x = new ClassStarter();
        for (int what : wrong) {
            due.is("count(" + what + ")", x.count(what), -1);
        }
        x.plan(0, 5, 0);
        x.explore();
        x.step(0);
        for (int what : wrong) {
            due.is("count(" + what + ") begun", x.count(what), -1);
        }
    }

    private static void classes() {
        due.by("0: classes");
        ClassStarter x = new ClassStarter();
        for (int c = 0; c <= 7; c++) {
            due.is("count(0)", x.count(0), c);
            x.declare(-9, false, false, 0);
            due.is("count(0) after a refused one", x.count(0), c);
            x.declare(-1, c % 2 == 1, false, 0);
        }
        due.is("count(0)", x.count(0), 8);
        x.declare(-1, false, false, 0);
        due.is("count(0) after a full one", x.count(0), 8);
        x.plan(0, 0, 7);
        x.step(0);
        x.reset();
        due.is("count(0) after a reset", x.count(0), 8);
    }

    private static void steps() {
        due.by("1: steps made since the reset");
        ClassStarter x = new ClassStarter();
        x.declare(-1, false, false, 0);
        x.plan(0, 0, 0);
        x.plan(1, 0, 0);
        due.is("none", x.count(1), 0);
        x.step(0);
        due.is("one", x.count(1), 1);
        x.step(1);
        due.is("one waits", x.count(1), 1);
        x.step(2);
        x.step(3);
        due.is("refused ones", x.count(1), 1);
        x.explore();
        due.is("an explore", x.count(1), 1);
        x.step(0);
        x.step(1);
        due.is("three", x.count(1), 3);
        x.reset();
        due.is("none after a reset", x.count(1), 0);
        x.step(1);
        due.is("one since the reset", x.count(1), 1);
    }

    private static void logged() {
        due.by("2: ints LOGGED");
        ClassStarter x = new ClassStarter();
        x.plan(0, 5, 0);
        x.plan(0, 6, 0);
        x.plan(0, 0, 7);
        due.is("none", x.count(2), 0);
        x.step(0);
        due.is("one", x.count(2), 1);
        x.step(0);
        due.is("a guard logs nothing", x.count(2), 1);
        x.step(0);
        due.is("a dropped fault is logged", x.count(2), 2);
        x.explore();
        due.is("an explore logs nothing", x.count(2), 2);
        x.reset();
        due.is("none after a reset", x.count(2), 0);
    }

    /** Threads 0 and 1 use each other's class: 6 orders, 2 of them stuck. */
    private static ClassStarter circle() {
        ClassStarter x = new ClassStarter();
        for (int c = 0; c <= 1; c++) {
            x.declare(-1, false, false, 0);
            x.act(c, 0, 1 - c, 0);
            x.plan(c, 0, c);
        }
        return x;
    }

    private static void ordersBefore() {
        due.by("3: orders that the last explore went through (0 before");
        ClassStarter x = circle();
        due.is("count(3)", x.count(3), 0);
        due.is("count(4)", x.count(4), 0);
        x.step(0);
        x.step(1);
        due.is("count(3), stuck", x.count(3), 0);
        due.is("count(4), stuck", x.count(4), 0);
    }

    private static void ordersOfTheLast() {
        due.by("3: orders that the last explore went through");
        ClassStarter x = new ClassStarter();
        x.explore();
        due.is("nothing to do", x.count(3), 1);
        int[] orders = {1, 2, 6, 12, 30, 90, 210, 560, 1680};
        for (int k = 0; k < 9; k++) {
            x.plan(k % 3, 5, 0);
            x.explore();
            due.is("orders", x.count(3), orders[k]);
            due.is("stuck orders", x.count(4), 0);
            x.explore();
            due.is("orders again", x.count(3), orders[k]);
        }
        x.step(0);
        due.is("after a step", x.count(3), 1680);
        x.reset();
        due.is("after a reset", x.count(3), 1680);
    }

    private static void ordersAfterFull() {
        due.by("and after FULL");
        ClassStarter x = circle();
        x.explore();
        due.is("orders", x.count(3), 6);
        due.is("stuck orders", x.count(4), 2);
        for (int k = 0; k < 2; k++) {
            x.plan(0, 5, k);
            x.plan(1, 5, k);
            x.plan(2, 5, k);
        }
        x.plan(2, 5, 2);
        due.is("explore()", x.explore(), -2);
        due.is("orders", x.count(3), 0);
        due.is("stuck orders", x.count(4), 0);
        due.is("explore() again", x.explore(), -2);
        due.is("orders", x.count(3), 0);
        due.is("stuck orders", x.count(4), 0);
    }

    /** The document takes the outcomes away after a change, not the counts of the last explore. */
    private static void ordersAfterAChange() {
        due.by("3: orders that the last explore went through");
        ClassStarter x = circle();
        x.explore();
        x.declare(-1, true, false, 0);
        x.declare(-1, false, false, 0);
        x.inherit(3, 2, true);
        x.act(0, 5, 0, 0);
        x.plan(2, 5, 0);
        due.is("orders", x.count(3), 6);
        due.is("stuck orders", x.count(4), 2);
    }

    private static void stuckOrders() {
        due.by("4: of these, in how many some thread was STUCK");
        ClassStarter x = circle();
        due.is("explore()", x.explore(), 2);
        due.is("two threads, counted once", x.count(4), 2);
        x.plan(2, 5, 0);
        x.explore();
        due.is("one more step at any place in them", x.count(4), 6);
        ClassStarter y = new ClassStarter();
        y.declare(-1, false, false, 0);
        y.plan(0, 0, 0);
        y.plan(1, 0, 0);
        y.explore();
        due.is("waiting that ends is not stuck", y.count(4), 0);
    }

    private static void begun() {
        due.by("5: 1 if begun.");
        ClassStarter x = new ClassStarter();
        due.is("new", x.count(5), 0);
        x.plan(0, 5, 0);
        x.explore();
        due.is("explored", x.count(5), 0);
        x.step(1);
        due.is("after a refused step", x.count(5), 0);
        x.step(0);
        due.is("after a step", x.count(5), 1);
        x.step(0);
        due.is("ended", x.count(5), 1);
        x.reset();
        due.is("after a reset", x.count(5), 0);
    }
}
