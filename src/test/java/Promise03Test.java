/** Promise 3, inherit: each boundary that the document names, by its sentence. */
public final class Promise03Test {
    private static final int MIN = Integer.MIN_VALUE;
    private static final int MAX = Integer.MAX_VALUE;
    private static final Due due = new Due("Promise 3, inherit");

    public static void main(String[] args) {
        howMany();
        notDeclared();
        anInterface();
        noInterface();
        notLess();
        nearestAndFarthest();
        hasIt();
        superclassHasIt();
        fullAtTwo();
        fullChangesNothing();
        wrongAndFull();
        defaultedOrNot();
        due.end();
    }

    /** Classes 0 to 2 are interfaces, 3 and 4 are not. */
    private static ClassStarter threeInterfaces() {
        ClassStarter x = new ClassStarter();
        for (int c = 0; c <= 4; c++) {
            x.declare(-1, c < 3, false, 0);
        }
        return x;
    }

    private static void howMany() {
        due.by("Gives class c one more interface i, DEFAULTED or not: how many it has.");
        for (int way = 0; way < 4; way++) {
            ClassStarter x = threeInterfaces();
            due.is("first", x.inherit(3, 2, way % 2 == 0), 1);
            due.is("second", x.inherit(3, 0, way < 2), 2);
            due.is("first of another class", x.inherit(4, 2, way < 2), 1);
        }
    }

    private static void notDeclared() {
        due.by("c is not declared .. REFUSED.");
        ClassStarter empty = new ClassStarter();
        due.is("no classes at all", empty.inherit(0, 0, true), -1);
        ClassStarter x = threeInterfaces();
        int[] numbers = {MIN, -1, 5, 6, 7, 8, MAX};
        for (int c : numbers) {
            due.is("inherit(" + c + ", 0)", x.inherit(c, 0, true), -1);
        }
        x.declare(-1, false, false, 0);
        due.is("declared now", x.inherit(5, 0, true), 1);
    }

    private static void anInterface() {
        due.by("c is not declared or an interface .. REFUSED.");
        ClassStarter x = threeInterfaces();
        due.is("inherit(2, 0)", x.inherit(2, 0, true), -1);
        due.is("inherit(1, 0)", x.inherit(1, 0, false), -1);
        x.plan(0, 0, 2);
        x.step(0);
        x.step(0);
        due.is("it has just its actions", x.result(0), 0);
    }

    private static void noInterface() {
        due.by("i is none .. REFUSED.");
        ClassStarter x = threeInterfaces();
        due.is("a class that is no interface", x.inherit(4, 3, true), -1);
        int[] numbers = {MIN, -2, -1, 5, 7, 8, MAX};
        for (int i : numbers) {
            due.is("inherit(4, " + i + ")", x.inherit(4, i, true), -1);
        }
        due.is("none of these counts", x.inherit(4, 0, true), 1);
    }

    private static void notLess() {
        due.by("or not less than c .. REFUSED.");
        ClassStarter x = new ClassStarter();
        x.declare(-1, false, false, 0);
        x.declare(-1, true, false, 0);
        x.declare(-1, false, false, 0);
        x.declare(-1, true, false, 0);
        due.is("itself", x.inherit(2, 2, true), -1);
        due.is("the next, an interface", x.inherit(2, 3, true), -1);
        due.is("an interface behind the first class", x.inherit(0, 1, true), -1);
        due.is("one far behind it", x.inherit(0, 3, true), -1);
        due.is("a lesser one", x.inherit(2, 1, true), 1);
    }

    private static void nearestAndFarthest() {
        due.by("a class has at most 2 interfaces (lesser numbers)");
        ClassStarter x = new ClassStarter();
        for (int c = 0; c <= 7; c++) {
            x.declare(-1, c == 0 || c == 6, false, 0);
        }
        due.is("the number right below", x.inherit(7, 6, true), 1);
        due.is("the least number", x.inherit(7, 0, true), 2);
        due.is("the least class", x.inherit(1, 0, true), 1);
    }

    private static void hasIt() {
        due.by("or it has i: REFUSED.");
        ClassStarter x = threeInterfaces();
        x.inherit(3, 1, false);
        due.is("the first once more", x.inherit(3, 1, false), -1);
        due.is("the first, defaulted", x.inherit(3, 1, true), -1);
        due.is("a second", x.inherit(3, 2, false), 2);
        due.is("the second once more", x.inherit(3, 2, false), -1);
        due.is("the second, defaulted", x.inherit(3, 2, true), -1);
        x.plan(0, 0, 3);
        x.step(0);
        x.step(0);
        due.is("none became defaulted", x.result(0), 0);
    }

    private static void superclassHasIt() {
        due.by("or it has i: REFUSED.");
        ClassStarter x = threeInterfaces();
        x.declare(3, false, false, 0);
        x.inherit(3, 0, true);
        x.inherit(3, 1, true);
        due.is("what its superclass has, it has not", x.inherit(5, 0, true), 1);
        due.is("nor the second", x.inherit(5, 1, true), 2);
    }

    private static void fullAtTwo() {
        due.by("2 there: FULL.");
        for (int way = 0; way < 8; way++) {
            ClassStarter x = threeInterfaces();
            x.inherit(3, 0, (way & 1) != 0);
            x.inherit(3, 1, (way & 2) != 0);
            due.is("a third", x.inherit(3, 2, (way & 4) != 0), -2);
            due.is("another class has room", x.inherit(4, 2, true), 1);
        }
    }

    private static void fullChangesNothing() {
        due.by("2 there: FULL.");
        ClassStarter x = threeInterfaces();
        x.inherit(3, 0, false);
        x.inherit(3, 1, true);
        x.inherit(3, 2, true);
        due.is("full again", x.inherit(3, 2, false), -2);
        x.plan(0, 0, 3);
        for (int k = 0; k < 4; k++) {
            due.is("step(0)", x.step(0), 1);
        }
        due.is("ended after four steps", x.result(0), 0);
        due.is("the third was not used", x.state(2), 0);
    }

    /** The document tells REFUSED first, then FULL. */
    private static void wrongAndFull() {
        due.by("or it has i: REFUSED. 2 there: FULL.");
        ClassStarter x = threeInterfaces();
        x.inherit(4, 0, true);
        x.inherit(4, 1, true);
        due.is("the first once more", x.inherit(4, 0, true), -1);
        due.is("the second once more", x.inherit(4, 1, true), -1);
        due.is("itself", x.inherit(4, 4, true), -1);
        due.is("no interface", x.inherit(4, 3, true), -1);
        due.is("not declared", x.inherit(4, 5, true), -1);
        due.is("-1", x.inherit(4, -1, true), -1);
    }

    private static void defaultedOrNot() {
        due.by("then of its DEFAULTED interfaces in order");
        for (int way = 0; way < 4; way++) {
            ClassStarter x = threeInterfaces();
            for (int i = 0; i < 3; i++) {
                x.act(i, 5, i, 0);
            }
            boolean first = way % 2 == 1;
            boolean second = way >= 2;
            x.inherit(3, 2, first);
            x.inherit(3, 0, second);
            x.act(3, 5, 30, 0);
            x.plan(1, 0, 3);
            while (x.step(1) == 1) {
                due.holds("steps end", x.count(1) < 20);
            }
            int k = 0;
            if (first) {
                due.is("interface 2", x.logged(k++), 2);
            }
            if (second) {
                due.is("interface 0", x.logged(k++), 0);
            }
            due.is("then the actions", x.logged(k), 30);
            due.is("state of 2", x.state(2), first ? 1 : 0);
            due.is("state of 0", x.state(0), second ? 1 : 0);
        }
    }
}
