/** Promise 9, statics: each boundary that the document names, by its sentence. */
public final class Promise09Test {
    private static final int MIN = Integer.MIN_VALUE;
    private static final int MAX = Integer.MAX_VALUE;
    private static final long NONE = ClassStarter.NONE;
    private static final Due due = new Due("Promise 9, statics");

    public static void main(String[] args) {
        noSuchStatic();
        noSuchClass();
        bothOutOfRange();
        leastAndGreatestInts();
        eachClassHasItsOwn();
        constantIsNotPut();
        failedClassKeepsItsStatics();
        due.end();
    }

    private static void noSuchStatic() {
        due.by("Static k 0 .. 1 of class c; NONE if there is none.");
        ClassStarter x = new ClassStarter();
        x.declare(-1, false, true, 5);
        x.declare(-1, false, true, 6);
        int[] wrong = {MIN, -2, -1, 2, 3, MAX};
        for (int k : wrong) {
            due.is("statics(0, " + k + ")", x.statics(0, k), NONE);
            due.is("statics(1, " + k + ")", x.statics(1, k), NONE);
        }
        due.is("statics(0, 0)", x.statics(0, 0), 0);
        due.is("statics(0, 1)", x.statics(0, 1), 5);
    }

    private static void noSuchClass() {
        due.by("NONE if there is none.");
        ClassStarter x = new ClassStarter();
        int[] never = {MIN, -1, 8, MAX};
        for (int count = 0; count <= 8; count++) {
            for (int k = 0; k <= 1; k++) {
                for (int c : never) {
                    due.is("statics(" + c + ", " + k + ")", x.statics(c, k), NONE);
                }
                for (int c = 0; c <= 7; c++) {
                    due.is("statics(" + c + ", " + k + ") of " + count, x.statics(c, k), c < count ? 3 * k : NONE);
                }
            }
            x.declare(-1, false, true, 3);
        }
    }

    /** A class and a static that are both out of range may meet at a place that is there. */
    private static void bothOutOfRange() {
        due.by("NONE if there is none.");
        ClassStarter x = new ClassStarter();
        for (int c = 0; c <= 3; c++) {
            x.declare(-1, false, true, 9);
        }
        int[] numbers = {MIN, MIN / 2, -8, -2, -1, 2, 4, 8, 16, 1 << 30, MAX};
        for (int c : numbers) {
            for (int k : numbers) {
                if (c != 2) {
                    due.is("statics(" + c + ", " + k + ")", x.statics(c, k), NONE);
                }
            }
        }
    }

    private static void leastAndGreatestInts() {
        due.by("PUT the int b into static 0 of the own class.");
        int[] numbers = {MIN, -1, 0, 1, MAX};
        for (int number : numbers) {
            ClassStarter x = new ClassStarter();
            x.declare(-1, false, true, number);
            x.act(0, 1, 77, 5);
            x.act(0, 1, 77, number);
            x.declare(-1, false, false, 0);
            x.act(1, 2, 0, 0);
            x.declare(-1, false, false, 0);
            x.act(2, 2, 1, 0);
            x.plan(0, 0, 1);
            x.plan(0, 0, 2);
            while (x.step(0) == 1) {
                due.holds("steps end", x.count(1) < 20);
            }
            due.is("put", x.statics(0, 0), number);
            due.is("constant", x.statics(0, 1), number);
            due.is("copied", x.statics(1, 0), number);
            due.is("the constant copied", x.statics(2, 0), number);
        }
    }

    private static void eachClassHasItsOwn() {
        due.by("1 PUT the int b into static 0 of the own class.");
        ClassStarter x = new ClassStarter();
        for (int c = 0; c <= 7; c++) {
            x.declare(-1, c == 2, c % 2 == 0, 100 + c);
            x.act(c, 1, 0, 10 + c);
            x.act(c, 0, c + 1 < 8 ? c + 1 : 0, 0);
        }
        x.plan(0, 0, 0);
        while (x.step(0) == 1) {
            due.holds("steps end", x.count(1) < 40);
        }
        for (int c = 0; c <= 7; c++) {
            due.is("static 0 of " + c, x.statics(c, 0), 10 + c);
            due.is("static 1 of " + c, x.statics(c, 1), c % 2 == 0 ? 100 + c : 0);
        }
    }

    private static void constantIsNotPut() {
        due.by("static 1 the CONSTANT's value from then on");
        ClassStarter x = new ClassStarter();
        x.declare(-1, false, true, 8);
        x.act(0, 1, 1, 3);
        x.act(0, 2, 1, 0);
        x.plan(0, 0, 0);
        x.step(0);
        x.step(0);
        due.is("put into static 0", x.statics(0, 0), 3);
        due.is("static 1", x.statics(0, 1), 8);
        x.step(0);
        due.is("copied to static 0", x.statics(0, 0), 8);
        due.is("static 1", x.statics(0, 1), 8);
        x.reset();
        due.is("static 1 after a reset", x.statics(0, 1), 8);
    }

    private static void failedClassKeepsItsStatics() {
        due.by("Static k 0 .. 1 of class c");
        ClassStarter x = new ClassStarter();
        x.declare(-1, false, true, 2);
        x.act(0, 1, 0, 4);
        x.act(0, 4, 0, 0);
        x.plan(0, 0, 0);
        for (int k = 0; k < 4; k++) {
            x.step(0);
        }
        due.is("failed", x.state(0), 2);
        due.is("static 0", x.statics(0, 0), 4);
        due.is("static 1", x.statics(0, 1), 2);
    }
}
