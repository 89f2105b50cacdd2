/** Promise 13, logged: each boundary that the document names, by its sentence. */
public final class Promise13Test {
    private static final int MIN = Integer.MIN_VALUE;
    private static final int MAX = Integer.MAX_VALUE;
    private static final long NONE = ClassStarter.NONE;
    private static final Due due = new Due("Promise 13, logged");

    public static void main(String[] args) {
        nothingYet();
        fromNought();
        leastAndGreatestInts();
        sinceTheReset();
        numbersOfFaults();
        theMostThatCanBe();
        exploreLogsNothing();
        due.end();
    }

    private static void nothingYet() {
        due.by("NONE if there is none.");
        ClassStarter x = new ClassStarter();
        x.plan(0, 5, 7);
        int[] numbers = {MIN, -1, 0, 1, MAX};
        for (int k : numbers) {
            due.is("logged(" + k + ")", x.logged(k), NONE);
        }
    }

    private static void fromNought() {
        due.by("The k-th int LOGGED since the reset, from 0; NONE if there is none.");
        ClassStarter x = new ClassStarter();
        for (int k = 0; k < 3; k++) {
            x.plan(0, 5, 70 + k);
            x.plan(1, 5, 80 + k);
        }
        int[] order = {1, 0, 0, 1, 1, 0};
        long[] log = {80, 70, 71, 81, 82, 72};
        for (int n = 0; n < order.length; n++) {
            x.step(order[n]);
            for (int k = 0; k <= n; k++) {
                due.is("logged(" + k + ")", x.logged(k), log[k]);
            }
            due.is("the one behind the last", x.logged(n + 1), NONE);
        }
        int[] wrong = {MIN, -1, 6, 7, 48, 49, 50, MAX};
        for (int k : wrong) {
            due.is("logged(" + k + ")", x.logged(k), NONE);
        }
    }

    private static void leastAndGreatestInts() {
        due.by("5 LOG the int a.");
        int[] numbers = {MIN, -2, -1, 0, 100, MAX};
        for (int number : numbers) {
            ClassStarter x = new ClassStarter();
            x.declare(-1, false, false, 0);
            x.act(0, 5, number, 3);
            x.plan(0, 5, number);
            x.plan(0, 0, 0);
            for (int k = 0; k < 4; k++) {
                x.step(0);
            }
            due.is("by a plan", x.logged(0), number);
            due.is("by a class", x.logged(1), number);
            due.is("no more", x.logged(2), NONE);
        }
    }

    private static void sinceTheReset() {
        due.by("LOGGED since the reset");
        ClassStarter x = new ClassStarter();
        x.plan(0, 5, 1);
        x.plan(0, 5, 2);
        x.plan(1, 5, 3);
        x.step(0);
        x.step(0);
        x.reset();
        due.is("logged(0)", x.logged(0), NONE);
        due.is("logged(1)", x.logged(1), NONE);
        x.step(1);
        due.is("logged(0) anew", x.logged(0), 3);
        due.is("logged(1) anew", x.logged(1), NONE);
    }

    private static void numbersOfFaults() {
        due.by("its number that is LOGGED then is n for an exception or error n, -1 for MISSING, -2 for BROKEN, 100 + n for INIT n");
        for (int n = 0; n <= 9; n++) {
            ClassStarter x = new ClassStarter();
            x.declare(-1, false, false, 0);
            x.act(0, 3, n, 0);
            x.declare(-1, false, false, 0);
            x.act(1, 6, 0, 0);
            x.act(1, 3, n, 0);
            x.act(1, 6, 0, 0);
            x.act(1, 4, n, 0);
            x.plan(0, 0, 1);
            x.plan(0, 6, 0);
            x.plan(0, 0, 0);
            x.plan(1, 6, 0);
            x.plan(1, 0, 0);
            x.plan(2, 6, 0);
            x.plan(2, 0, 2);
            for (int t = 0; t <= 2; t++) {
                while (x.step(t) == 1) {
                    due.holds("steps end", x.count(1) < 30);
                }
                due.is("ended without fault", x.result(t), 0);
            }
            due.is("exception " + n, x.logged(0), n);
            due.is("error " + n, x.logged(1), n);
            due.is("init " + n, x.logged(2), 100 + n);
            due.is("broken", x.logged(3), -2);
            due.is("missing", x.logged(4), -1);
            due.is("no more", x.logged(5), NONE);
        }
    }

    /** The first plan uses a class and logs twice; the others log three times, each class five times. */
    private static void theMostThatCanBe() {
        due.by("The k-th int LOGGED since the reset, from 0; NONE if there is none.");
        ClassStarter x = new ClassStarter();
        for (int c = 0; c <= 7; c++) {
            x.declare(c - 1, false, false, 0);
            for (int k = 0; k < 5; k++) {
                x.act(c, 5, 10 * c + k, 0);
            }
        }
        x.plan(0, 0, 7);
        for (int k = 0; k < 3; k++) {
            x.plan(0, 5, 100 + k);
            x.plan(1, 5, 200 + k);
            x.plan(2, 5, 300 + k);
        }
        for (int t = 0; t <= 2; t++) {
            while (x.step(t) == 1) {
                due.holds("steps end", x.count(1) < 100);
            }
        }
        due.is("count(2)", x.count(2), 48);
        for (int k = 0; k < 40; k++) {
            due.is("logged(" + k + ")", x.logged(k), 10 * (k / 5) + k % 5);
        }
        int[] last = {100, 101, 200, 201, 202, 300, 301, 302};
        for (int k = 0; k < 8; k++) {
            due.is("logged(" + (40 + k) + ")", x.logged(40 + k), last[k]);
        }
        due.is("logged(48)", x.logged(48), NONE);
        due.is("logged(49)", x.logged(49), NONE);
    }

    private static void exploreLogsNothing() {
        due.by("the present state stays");
        ClassStarter x = new ClassStarter();
        x.plan(0, 5, 1);
        x.plan(1, 5, 2);
        x.explore();
        due.is("logged(0)", x.logged(0), NONE);
        x.step(1);
        x.explore();
        due.is("logged(0)", x.logged(0), 2);
        due.is("logged(1)", x.logged(1), NONE);
    }
}
