import java.util.ArrayList;
import java.util.List;
import java.util.function.Supplier;
import java.util.function.ToLongFunction;

/**
 * "A refused call changes nothing", for every promise: an object that got a refused call answers ever
 * after like its twin that did not get it. Calls that answered FULL or NONE are held to the same.
 */
public final class RefusedTest {
    private static final int MIN = Integer.MIN_VALUE;
    private static final int MAX = Integer.MAX_VALUE;
    private static final Due due = new Due("A refused call changes nothing");

    private record Call(int promise, String text, ToLongFunction<ClassStarter> on) {
    }

    private record Scene(String name, Supplier<ClassStarter> make) {
    }

    private static final List<Call> calls = new ArrayList<>();

    public static void main(String[] args) {
        declares();
        inherits();
        acts();
        plans();
        stepsAndLooks();
        List<Scene> scenes = List.of(
                new Scene("a new object", ClassStarter::new),
                new Scene("built and explored", RefusedTest::built),
                new Scene("full", RefusedTest::full),
                new Scene("one waits", RefusedTest::waiting),
                new Scene("a fault is pending", RefusedTest::pending),
                new Scene("stuck", RefusedTest::stuck),
                new Scene("ended", RefusedTest::ended));
        int[] refusedOf = new int[17];
        for (Scene scene : scenes) {
            String untouched = everAfter(scene.make().get());
            for (Call call : calls) {
                ClassStarter x = scene.make().get();
                long answer = call.on().applyAsLong(x);
                if (isRefusal(answer)) {
                    refusedOf[call.promise()]++;
                    due.same("promise " + call.promise() + ", " + scene.name() + ": after " + call.text(),
                            everAfter(x), untouched);
                }
            }
        }
        int[] thatCanRefuse = {2, 3, 4, 5, 6, 8, 9, 10, 11, 12, 13, 15, 16};
        for (int promise : thatCanRefuse) {
            due.holds("promise " + promise + " refused some calls", refusedOf[promise] > 0);
        }
        due.end();
    }

    private static boolean isRefusal(long answer) {
        return answer == ClassStarter.REFUSED || answer == ClassStarter.FULL || answer == ClassStarter.NONE;
    }

    private static void add(int promise, String text, ToLongFunction<ClassStarter> on) {
        calls.add(new Call(promise, text, on));
    }

    private static void declares() {
        int[] numbers = {MIN, -2, -1, 0, 1, 2, 3, 7, 8, MAX};
        for (int superclass : numbers) {
            for (int way = 0; way < 4; way++) {
                boolean isInterface = way % 2 == 1;
                boolean constant = way >= 2;
                add(2, "declare(" + superclass + ", " + isInterface + ", " + constant + ", 9)",
                        x -> x.declare(superclass, isInterface, constant, 9));
            }
        }
    }

    private static void inherits() {
        int[] numbers = {MIN, -1, 0, 1, 2, 3, 4, 5, 6, 7, 8, MAX};
        for (int c : numbers) {
            for (int i : numbers) {
                add(3, "inherit(" + c + ", " + i + ", true)", x -> x.inherit(c, i, true));
                add(3, "inherit(" + c + ", " + i + ", false)", x -> x.inherit(c, i, false));
            }
        }
    }

    private static void acts() {
        int[] classes = {MIN, -1, 0, 3, 7, 8, MAX};
        int[][] rest = {{-1, 0, 0}, {7, 0, 0}, {MIN, 0, 0}, {MAX, 0, 0}, {0, -1, 0}, {0, 8, 0}, {0, 0, 0}, {1, 0, 5},
            {2, -1, 0}, {2, 2, 0}, {2, 0, -1}, {2, 1, 8}, {2, 0, 0}, {3, -1, 0}, {3, 10, 0}, {3, 0, 0}, {4, -1, 0},
            {4, 10, 0}, {4, 9, 0}, {5, 0, 0}, {6, 0, 0}};
        for (int c : classes) {
            for (int[] row : rest) {
                add(4, "act(" + c + ", " + row[0] + ", " + row[1] + ", " + row[2] + ")",
                        x -> x.act(c, row[0], row[1], row[2]));
            }
        }
    }

    private static void plans() {
        int[] threads = {MIN, -1, 0, 1, 2, 3, MAX};
        int[][] rest = {{MIN, 0}, {-1, 0}, {1, 0}, {2, 0}, {3, 0}, {4, 0}, {7, 0}, {MAX, 0}, {0, -1}, {0, 8}, {0, 0},
            {5, 0}, {6, 0}};
        for (int t : threads) {
            for (int[] row : rest) {
                add(5, "plan(" + t + ", " + row[0] + ", " + row[1] + ")", x -> x.plan(t, row[0], row[1]));
            }
        }
    }

    private static void stepsAndLooks() {
        int[] numbers = {MIN, -1, 0, 1, 2, 3, 4, 5, 6, 7, 8, 50, MAX};
        for (int n : numbers) {
            add(6, "step(" + n + ")", x -> x.step(n));
            add(8, "state(" + n + ")", x -> x.state(n));
            for (int k : numbers) {
                add(9, "statics(" + n + ", " + k + ")", x -> x.statics(n, k));
            }
            add(10, "result(" + n + ")", x -> x.result(n));
            add(11, "inside(" + n + ")", x -> x.inside(n));
            add(12, "waitsFor(" + n + ")", x -> x.waitsFor(n));
            add(13, "logged(" + n + ")", x -> x.logged(n));
            add(15, "outcome(" + n + ")", x -> x.outcome(n));
            add(16, "count(" + n + ")", x -> x.count(n));
        }
    }

    /** What it shows now, when its threads go on by turns, after a reset and an explore, and how much room it has. */
    private static String everAfter(ClassStarter x) {
        StringBuilder text = new StringBuilder(Picture.of(x));
        text.append("\n  steps");
        for (int k = 0; k < 90; k++) {
            text.append(' ').append(x.step(k % 3));
        }
        text.append('\n').append(Picture.of(x));
        text.append("\n  reset ").append(x.reset()).append(", explore ").append(x.explore());
        text.append('\n').append(Picture.of(x));
        text.append("\n  room");
        for (int c = 0; c <= 7; c++) {
            text.append(' ').append(x.act(c, 5, 0, 0));
        }
        for (int i = 0; i <= 2; i++) {
            text.append(' ').append(x.inherit(3, i, false)).append(' ').append(x.inherit(7, i, false));
        }
        for (int t = 0; t <= 2; t++) {
            text.append(' ').append(x.plan(t, 5, 0));
        }
        text.append(' ').append(x.declare(-1, false, false, 0)).append(' ').append(x.declare(3, false, false, 0));
        return text.toString();
    }

    /** Interfaces 0 to 2, class 3 with one of them, class 4 that fails under it. */
    private static ClassStarter built() {
        ClassStarter x = new ClassStarter();
        for (int c = 0; c <= 4; c++) {
            x.declare(c == 4 ? 3 : -1, c < 3, c % 2 == 0, 20 + c);
        }
        x.act(0, 5, 8, 0);
        x.inherit(3, 0, true);
        x.act(3, 2, 0, 4);
        x.act(4, 1, 0, 6);
        x.act(4, 0, 3, 0);
        x.act(4, 3, 5, 0);
        x.plan(0, 0, 3);
        x.plan(1, 0, 4);
        x.plan(1, 5, 1);
        x.explore();
        return x;
    }

    /** No room anywhere but in some classes; the plans end at their first use of class 4. */
    private static ClassStarter full() {
        ClassStarter x = new ClassStarter();
        for (int c = 0; c <= 7; c++) {
            x.declare(c == 4 ? 3 : -1, c < 3, c % 2 == 0, 20 + c);
        }
        x.inherit(3, 0, true);
        x.inherit(3, 1, false);
        x.inherit(7, 2, true);
        x.inherit(7, 1, true);
        int[] filled = {0, 3, 7};
        for (int c : filled) {
            for (int k = 0; k < 5; k++) {
                x.act(c, c == 3 ? 4 : 5, k, 0);
            }
        }
        for (int k = 0; k < 3; k++) {
            for (int t = 0; t <= 2; t++) {
                x.plan(t, 0, 4);
            }
        }
        x.explore();
        return x;
    }

    private static ClassStarter stepped(int... threads) {
        ClassStarter x = built();
        for (int t : threads) {
            due.is("step(" + t + ")", x.step(t), 1);
        }
        return x;
    }

    private static ClassStarter waiting() {
        ClassStarter x = stepped(1, 1, 1, 1, 1);
        due.is("thread 0 waits", x.waitsFor(0), 3);
        due.is("thread 1 goes on", x.inside(1), 3);
        return x;
    }

    private static ClassStarter pending() {
        ClassStarter x = stepped(1, 1, 1, 1, 1, 1, 1, 1, 1, 1);
        due.is("class 4 is not failed yet", x.state(4), 5);
        due.is("class 3 is done", x.state(3), 1);
        return x;
    }

    private static ClassStarter stuck() {
        ClassStarter x = stepped(0, 1, 0, 0, 0);
        due.is("thread 0 is stuck", x.result(0), 50);
        due.is("thread 1 is stuck", x.result(1), 50);
        return x;
    }

    private static ClassStarter ended() {
        ClassStarter x = stepped(1, 1, 1, 1, 1, 1, 1, 1, 1, 1, 1, 0);
        due.is("thread 0 ended", x.result(0), 0);
        due.is("thread 1 ended with init 5", x.result(1), 36);
        return x;
    }
}
