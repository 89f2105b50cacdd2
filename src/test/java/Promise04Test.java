/** Promise 4, act: each boundary that the document names, by its sentence. */
public final class Promise04Test {
    private static final int MIN = Integer.MIN_VALUE;
    private static final int MAX = Integer.MAX_VALUE;
    private static final Due due = new Due("Promise 4, act");

    public static void main(String[] args) {
        howMany();
        notDeclared();
        actionOutOfRange();
        operandOfUse();
        operandsOfCopy();
        operandOfRaise();
        othersAreAnyInt();
        fullAtFive();
        fullChangesNothing();
        usesAheadAreNoActions();
        wrongAndFull();
        copyOfOneNotDeclared();
        useOfOneNotDeclared();
        due.end();
    }

    private static ClassStarter oneClass() {
        ClassStarter x = new ClassStarter();
        x.declare(-1, false, false, 0);
        return x;
    }

    /** A first call with these operands, and what it adds: a second call counts it or does not. */
    private static void takes(int action, int a, int b, boolean right) {
        ClassStarter x = oneClass();
        String call = "act(0, " + action + ", " + a + ", " + b + ")";
        due.is(call, x.act(0, action, a, b), right ? 1 : -1);
        due.is("the action behind " + call, x.act(0, 5, 0, 0), right ? 2 : 1);
    }

    private static void howMany() {
        due.by("Adds an action to class c's INITIALISER: how many it has.");
        ClassStarter x = oneClass();
        x.declare(-1, true, false, 0);
        int[] actions = {6, 0, 1, 2, 5};
        for (int k = 0; k < 5; k++) {
            due.is("class: action " + k, x.act(0, actions[k], 0, 0), k + 1);
            due.is("interface: action " + k, x.act(1, actions[4 - k], 0, 0), k + 1);
        }
    }

    private static void notDeclared() {
        due.by("c is not declared .. REFUSED.");
        due.is("no classes at all", new ClassStarter().act(0, 5, 0, 0), -1);
        ClassStarter x = oneClass();
        int[] numbers = {MIN, -1, 1, 7, 8, MAX};
        for (int c : numbers) {
            due.is("act(" + c + ", 5, 0, 0)", x.act(c, 5, 0, 0), -1);
        }
        x.declare(-1, false, false, 0);
        due.is("declared now", x.act(1, 5, 0, 0), 1);
    }

    private static void actionOutOfRange() {
        due.by("action out of 0 .. 6");
        int[] wrong = {MIN, -2, -1, 7, 8, MAX};
        for (int action : wrong) {
            takes(action, 0, 0, false);
        }
        for (int action = 0; action <= 6; action++) {
            takes(action, 0, 0, true);
        }
    }

    private static void operandOfUse() {
        due.by("an operand out of range (a 0 .. 7 for 0");
        int[] wrong = {MIN, -1, 8, 9, MAX};
        for (int a : wrong) {
            takes(0, a, 0, false);
        }
        for (int a = 0; a <= 7; a++) {
            takes(0, a, 0, true);
        }
    }

    private static void operandsOfCopy() {
        due.by("a 0 .. 1 and b 0 .. 7 for 2");
        int[] wrongA = {MIN, -1, 2, 7, MAX};
        int[] wrongB = {MIN, -1, 8, MAX};
        for (int a : wrongA) {
            takes(2, a, 0, false);
            takes(2, a, 7, false);
        }
        for (int b : wrongB) {
            takes(2, 0, b, false);
            takes(2, 1, b, false);
        }
        for (int b = 0; b <= 7; b++) {
            takes(2, 0, b, true);
            takes(2, 1, b, true);
        }
    }

    private static void operandOfRaise() {
        due.by("0 .. 9 for 3 and 4");
        int[] wrong = {MIN, -1, 10, 11, MAX};
        for (int action = 3; action <= 4; action++) {
            for (int a : wrong) {
                takes(action, a, 0, false);
            }
            for (int a = 0; a <= 9; a++) {
                takes(action, a, 0, true);
            }
        }
    }

    private static void othersAreAnyInt() {
        due.by("others any int");
        int[] numbers = {MIN, -1, 0, 1, 2, 7, 8, 9, 10, MAX};
        for (int b : numbers) {
            takes(0, 7, b, true);
            takes(3, 9, b, true);
            takes(4, 9, b, true);
            for (int a : numbers) {
                takes(1, a, b, true);
                takes(5, a, b, true);
                takes(6, a, b, true);
            }
        }
    }

    private static ClassStarter fiveActions() {
        ClassStarter x = oneClass();
        for (int k = 1; k <= 5; k++) {
            due.is("action " + k, x.act(0, 5, k, 0), k);
        }
        return x;
    }

    private static void fullAtFive() {
        due.by("5 there: FULL.");
        ClassStarter x = fiveActions();
        for (int action = 0; action <= 6; action++) {
            due.is("a sixth: " + action, x.act(0, action, 0, 0), -2);
        }
        x.declare(-1, true, false, 0);
        due.is("another one has room", x.act(1, 5, 0, 0), 1);
    }

    private static void fullChangesNothing() {
        due.by("5 there: FULL.");
        ClassStarter x = fiveActions();
        x.act(0, 5, 6, 0);
        x.act(0, 3, 6, 0);
        x.plan(0, 0, 0);
        for (int k = 0; k < 7; k++) {
            due.is("step(0)", x.step(0), 1);
        }
        due.is("ended without fault", x.result(0), 0);
        due.is("logged", x.count(2), 5);
        for (int k = 0; k < 5; k++) {
            due.is("logged(" + k + ")", x.logged(k), k + 1);
        }
    }

    private static void usesAheadAreNoActions() {
        due.by("an INITIALISER of at most 5 actions");
        ClassStarter x = new ClassStarter();
        for (int c = 0; c <= 2; c++) {
            x.declare(-1, c > 0, false, 0);
        }
        x.declare(0, false, false, 0);
        x.inherit(3, 1, true);
        for (int k = 1; k <= 5; k++) {
            due.is("action " + k, x.act(3, 5, k, 0), k);
        }
        due.is("a sixth", x.act(3, 5, 6, 0), -2);
        due.is("one more use ahead", x.inherit(3, 2, true), 2);
        due.is("a sixth yet", x.act(3, 5, 6, 0), -2);
        x.plan(0, 0, 3);
        for (int k = 0; k < 13; k++) {
            due.is("step(0)", x.step(0), 1);
        }
        due.is("ended", x.result(0), 0);
        due.is("logged by the fifth", x.logged(4), 5);
        due.is("logged", x.count(2), 5);
    }

    /** The document tells REFUSED first, then FULL. */
    private static void wrongAndFull() {
        due.by("REFUSED. 5 there: FULL.");
        ClassStarter x = fiveActions();
        due.is("action -1", x.act(0, -1, 0, 0), -1);
        due.is("action 7", x.act(0, 7, 0, 0), -1);
        due.is("use of 8", x.act(0, 0, 8, 0), -1);
        due.is("copy of static 2", x.act(0, 2, 2, 0), -1);
        due.is("copy of class 8", x.act(0, 2, 0, 8), -1);
        due.is("exception 10", x.act(0, 3, 10, 0), -1);
        due.is("error -1", x.act(0, 4, -1, 0), -1);
    }

    private static void copyOfOneNotDeclared() {
        due.by("(2 of a class that is not declared: fault MISSING.)");
        for (int k = 0; k <= 1; k++) {
            for (int b = 1; b <= 7; b++) {
                ClassStarter x = oneClass();
                due.is("act(0, 2, " + k + ", " + b + ")", x.act(0, 2, k, b), 1);
                x.plan(0, 0, 0);
                for (int s = 0; s < 3; s++) {
                    due.is("step(0)", x.step(0), 1);
                }
                due.is("missing", x.result(0), 21);
                due.is("failed", x.state(0), 2);
            }
        }
    }

    private static void useOfOneNotDeclared() {
        due.by("of one that is not declared: MISSING COMES");
        ClassStarter x = oneClass();
        x.act(0, 0, 1, 0);
        x.plan(0, 0, 0);
        for (int s = 0; s < 3; s++) {
            due.is("step(0)", x.step(0), 1);
        }
        due.is("missing", x.result(0), 21);
        x.reset();
        x.declare(-1, false, false, 0);
        for (int s = 0; s < 4; s++) {
            due.is("step(0), declared now", x.step(0), 1);
        }
        due.is("ended", x.result(0), 0);
    }
}
