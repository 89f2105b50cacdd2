/** Promise 2, declare: each boundary that the document names, by its sentence. */
public final class Promise02Test {
    private static final int MIN = Integer.MIN_VALUE;
    private static final int MAX = Integer.MAX_VALUE;
    private static final long NONE = ClassStarter.NONE;
    private static final Due due = new Due("Promise 2, declare");

    public static void main(String[] args) {
        numbers();
        superclassNoneOrDeclared();
        superclassTooSmall();
        superclassTooLarge();
        superclassAnInterface();
        interfaceNeedsNone();
        constantIsAnyInt();
        constantZeroIsConstant();
        valueNotLookedAt();
        staticsAtFirst();
        fullAtEight();
        fullChangesNothing();
        wrongAndFull();
        due.end();
    }

    private static void numbers() {
        due.by("Declares a class: its number.");
        ClassStarter x = new ClassStarter();
        for (int c = 0; c <= 7; c++) {
            due.is("classes before", x.count(0), c);
            due.is("declare", x.declare(-1, c % 2 == 1, c % 3 == 0, c), c);
            due.is("its state", x.state(c), 0);
            due.is("no next one", x.state(c + 1), -1);
        }
        due.is("classes", x.count(0), 8);
    }

    private static void superclassNoneOrDeclared() {
        due.by("superclass is -1 or a declared class that is no interface");
        for (int superclass = -1; superclass <= 6; superclass++) {
            ClassStarter x = new ClassStarter();
            for (int c = 0; c <= superclass; c++) {
                x.declare(-1, false, false, 0);
            }
            int number = superclass + 1;
            due.is("declare(" + superclass + ", ..)", x.declare(superclass, false, false, 0), number);
            x.plan(0, 0, number);
            x.step(0);
            due.is("it is begun", x.inside(0), number);
            x.step(0);
            due.is("its superclass is used first", x.inside(0), superclass);
        }
    }

    private static void superclassTooSmall() {
        due.by("superclass is -1 or a declared class that is no interface .. Else REFUSED");
        ClassStarter x = new ClassStarter();
        x.declare(-1, false, false, 0);
        due.is("declare(-2, ..)", x.declare(-2, false, false, 0), -1);
        due.is("declare(MIN, ..)", x.declare(MIN, false, false, 0), -1);
        due.is("classes", x.count(0), 1);
    }

    private static void superclassTooLarge() {
        due.by("superclass is -1 or a declared class that is no interface .. Else REFUSED");
        ClassStarter x = new ClassStarter();
        for (int count = 0; count <= 7; count++) {
            due.is("its own number " + count, x.declare(count, false, false, 0), -1);
            due.is("one more", x.declare(count + 1, false, false, 0), -1);
            due.is("declare(8, ..)", x.declare(8, false, false, 0), -1);
            due.is("declare(MAX, ..)", x.declare(MAX, false, false, 0), -1);
            due.is("classes", x.count(0), count);
            due.is("a right one", x.declare(-1, false, false, 0), count);
        }
    }

    private static void superclassAnInterface() {
        due.by("a declared class that is no interface .. Else REFUSED");
        ClassStarter x = new ClassStarter();
        x.declare(-1, true, false, 0);
        due.is("declare(0, ..)", x.declare(0, false, false, 0), -1);
        due.is("declare(0, ..) with a constant", x.declare(0, false, true, 1), -1);
        due.is("classes", x.count(0), 1);
        due.is("the next number", x.declare(-1, false, false, 0), 1);
        due.is("a class stands behind it", x.declare(1, false, false, 0), 2);
    }

    private static void interfaceNeedsNone() {
        due.by("isInterface needs -1");
        ClassStarter x = new ClassStarter();
        due.is("the first", x.declare(-1, true, false, 0), 0);
        x.declare(-1, false, false, 0);
        due.is("with a class above", x.declare(1, true, false, 0), -1);
        due.is("with an interface above", x.declare(0, true, false, 0), -1);
        due.is("with its own number", x.declare(2, true, false, 0), -1);
        due.is("with -2", x.declare(-2, true, false, 0), -1);
        due.is("with MIN", x.declare(MIN, true, false, 0), -1);
        due.is("with MAX", x.declare(MAX, true, false, 0), -1);
        due.is("classes", x.count(0), 2);
        due.is("with -1", x.declare(-1, true, true, 0), 2);
    }

    private static void constantIsAnyInt() {
        due.by("constant true: static 1 is CONSTANT with this value (value is any int");
        int[] values = {MIN, MIN + 1, -1, 0, 1, MAX - 1, MAX};
        ClassStarter x = new ClassStarter();
        for (int c = 0; c < values.length; c++) {
            due.is("declare", x.declare(-1, c % 2 == 0, true, values[c]), c);
            due.is("static 1", x.statics(c, 1), values[c]);
            due.is("static 0", x.statics(c, 0), 0);
        }
    }

    private static void constantZeroIsConstant() {
        due.by("constant true: static 1 is CONSTANT with this value");
        ClassStarter x = new ClassStarter();
        x.declare(-1, false, true, 0);
        x.declare(-1, false, false, 0);
        x.act(1, 2, 1, 0);
        x.plan(0, 0, 1);
        x.step(0);
        due.is("a copy of it", x.step(0), 1);
        due.is("is no use", x.state(0), 0);
        due.is("is inside the class that copies", x.inside(0), 1);
    }

    private static void valueNotLookedAt() {
        due.by("and not looked at else");
        int[] values = {MIN, -1, 0, 1, 7, MAX};
        for (int value : values) {
            ClassStarter x = new ClassStarter();
            due.is("declare(.., false, " + value + ")", x.declare(-1, false, false, value), 0);
            due.is("static 1", x.statics(0, 1), 0);
            x.declare(-1, false, false, value);
            x.act(1, 1, 0, 5);
            x.act(1, 2, 1, 0);
            x.plan(0, 0, 1);
            for (int k = 0; k < 3; k++) {
                x.step(0);
            }
            due.is("a copy of it is a use", x.inside(0), 0);
            x.step(0);
            due.is("of 0", x.statics(1, 0), 0);
        }
    }

    private static void staticsAtFirst() {
        due.by("Statics are 0 when it is declared, static 1 the CONSTANT's value from then on.");
        ClassStarter x = new ClassStarter();
        due.is("none before", x.statics(0, 1), NONE);
        x.declare(-1, false, true, 4);
        due.is("static 0", x.statics(0, 0), 0);
        due.is("static 1", x.statics(0, 1), 4);
        x.declare(-1, false, false, 4);
        due.is("static 0", x.statics(1, 0), 0);
        due.is("static 1", x.statics(1, 1), 0);
    }

    private static ClassStarter eight() {
        ClassStarter x = new ClassStarter();
        for (int c = 0; c <= 7; c++) {
            due.is("declare " + c, x.declare(c == 3 ? -1 : c == 4 ? 2 : c - 1, c == 3, true, c), c);
        }
        return x;
    }

    private static void fullAtEight() {
        due.by("8 classes: FULL.");
        ClassStarter x = eight();
        due.is("a class", x.declare(-1, false, false, 0), -2);
        due.is("a subclass of the first", x.declare(0, false, false, 0), -2);
        due.is("a subclass of the last", x.declare(7, false, false, 0), -2);
        due.is("an interface", x.declare(-1, true, false, 0), -2);
        due.is("a constant", x.declare(-1, false, true, MAX), -2);
    }

    private static void fullChangesNothing() {
        due.by("8 classes: FULL.");
        ClassStarter x = eight();
        String before = Picture.of(x);
        x.declare(7, false, true, 99);
        x.declare(-1, true, true, 99);
        due.same("after full calls", Picture.of(x), before);
        due.is("the last is still a class", x.inherit(7, 3, false), 1);
        due.is("there is no ninth", x.state(8), -1);
        due.is("with statics", x.statics(8, 1), NONE);
        due.is("or an initialiser", x.act(8, 5, 0, 0), -1);
    }

    /** The document tells REFUSED first, then FULL. */
    private static void wrongAndFull() {
        due.by("Else REFUSED; 8 classes: FULL.");
        ClassStarter x = eight();
        due.is("superclass 8", x.declare(8, false, false, 0), -1);
        due.is("superclass -2", x.declare(-2, false, false, 0), -1);
        due.is("superclass an interface", x.declare(3, false, false, 0), -1);
        due.is("an interface with a superclass", x.declare(0, true, false, 0), -1);
    }
}
