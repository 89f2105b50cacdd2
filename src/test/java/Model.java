import java.util.ArrayList;
import java.util.HashSet;
import java.util.List;
import java.util.Set;
import java.util.TreeSet;

/**
 * The document once more, written without a look at the program's ways: lists, texts for faults, and
 * whole copies of the world when orders are gone through. The random runs hold the program against it.
 */
final class Model {
    static final int REFUSED = -1;
    static final int FULL = -2;
    static final long NONE = 1000000000000L;

    /** A part: of an initialiser, of a plan, or a use that comes before the actions. */
    record Part(boolean isAction, int action, int a, int b) {
    }

    static final class Type {
        int superclass = -1;
        boolean isInterface;
        boolean constant;
        int value;
        final List<Integer> interfaces = new ArrayList<>();
        final List<Boolean> defaulted = new ArrayList<>();
        final List<Part> actions = new ArrayList<>();

        List<Part> parts() {
            List<Part> parts = new ArrayList<>();
            if (superclass >= 0) {
                parts.add(new Part(false, 0, superclass, 0));
            }
            for (int k = 0; k < interfaces.size(); k++) {
                if (defaulted.get(k)) {
                    parts.add(new Part(false, 0, interfaces.get(k), 0));
                }
            }
            parts.addAll(actions);
            return parts;
        }
    }

    static final class Frame {
        final int type;
        final List<Part> parts;
        int at;

        Frame(int type, List<Part> parts, int at) {
            this.type = type;
            this.parts = parts;
            this.at = at;
        }

        boolean isPlan() {
            return type < 0;
        }
    }

    static final class Runner {
        final List<Frame> stack = new ArrayList<>();
        String pending;
        String endedWith;

        Frame top() {
            return stack.get(stack.size() - 1);
        }

        boolean ended() {
            return endedWith != null || stack.size() == 1 && top().at == top().parts.size();
        }
    }

    final class World {
        final String[] states = new String[8];
        final int[] statics = new int[8];
        final List<Runner> runners = new ArrayList<>();
        final List<Integer> log = new ArrayList<>();
        int steps;

        World() {
            java.util.Arrays.fill(states, "NEW");
            for (int t = 0; t < 3; t++) {
                Runner runner = new Runner();
                runner.stack.add(new Frame(-1, plans.get(t), 0));
                runners.add(runner);
            }
        }

        World copy() {
            World other = new World();
            System.arraycopy(states, 0, other.states, 0, 8);
            System.arraycopy(statics, 0, other.statics, 0, 8);
            other.log.addAll(log);
            other.steps = steps;
            for (int t = 0; t < 3; t++) {
                Runner from = runners.get(t);
                Runner to = other.runners.get(t);
                to.pending = from.pending;
                to.endedWith = from.endedWith;
                to.stack.clear();
                for (Frame frame : from.stack) {
                    to.stack.add(new Frame(frame.type, frame.parts, frame.at));
                }
            }
            return other;
        }

        boolean isConstantCopy(Part part) {
            return part.action() == 2 && part.a() == 1 && part.b() < types.size() && types.get(part.b()).constant;
        }

        int used(Part part) {
            if (part.action() == 0) {
                return part.a();
            }
            return part.action() == 2 && !isConstantCopy(part) ? part.b() : -1;
        }

        int waitsFor(int t) {
            Runner runner = runners.get(t);
            Frame top = runner.top();
            if (runner.ended() || runner.pending != null || top.at == top.parts.size()) {
                return -1;
            }
            int used = used(top.parts.get(top.at));
            boolean waits = used >= 0 && used < types.size() && states[used].startsWith("BUSY")
                    && !states[used].equals("BUSY" + t);
            return waits ? used : -1;
        }

        boolean canStep(int t) {
            return !runners.get(t).ended() && waitsFor(t) < 0;
        }

        boolean anyCanStep() {
            return canStep(0) || canStep(1) || canStep(2);
        }

        void comes(Runner runner, String fault) {
            Frame top = runner.top();
            boolean behindGuard = top.parts.get(top.at).isAction() && top.at > 0
                    && top.parts.get(top.at - 1).isAction() && top.parts.get(top.at - 1).action() == 6;
            if (behindGuard) {
                log.add(number(fault));
                top.at++;
            } else if (top.isPlan()) {
                runner.endedWith = fault;
            } else {
                runner.pending = fault;
            }
        }

        int number(String fault) {
            if (fault.equals("MISSING")) {
                return -1;
            }
            if (fault.equals("BROKEN")) {
                return -2;
            }
            int n = Integer.parseInt(fault.substring(fault.indexOf(' ') + 1));
            return fault.startsWith("INIT") ? 100 + n : n;
        }

        void made(Runner runner) {
            Frame top = runner.top();
            Part part = top.parts.get(top.at);
            if (part.action() == 2) {
                Type from = types.get(part.b());
                statics[top.type] = part.a() == 0 ? statics[part.b()] : from.constant ? from.value : 0;
            }
            top.at++;
        }

        void step(int t) {
            steps++;
            Runner runner = runners.get(t);
            Frame top = runner.top();
            if (runner.pending != null) {
                String fault = runner.pending;
                runner.pending = null;
                states[top.type] = "FAILED";
                runner.stack.remove(runner.stack.size() - 1);
                comes(runner, fault.replace("EXCEPTION", "INIT"));
                return;
            }
            if (top.at == top.parts.size()) {
                states[top.type] = "DONE";
                runner.stack.remove(runner.stack.size() - 1);
                made(runner);
                return;
            }
            Part part = top.parts.get(top.at);
            int used = used(part);
            if (used >= 0) {
                use(runner, t, used);
            } else if (part.action() == 3) {
                comes(runner, "EXCEPTION " + part.a());
            } else if (part.action() == 4) {
                comes(runner, "ERROR " + part.a());
            } else if (part.action() == 2) {
                made(runner);
            } else {
                if (part.action() == 1) {
                    statics[top.type] = part.b();
                } else if (part.action() == 5) {
                    log.add(part.a());
                }
                top.at++;
            }
        }

        void use(Runner runner, int t, int used) {
            if (used >= types.size()) {
                comes(runner, "MISSING");
            } else if (states[used].equals("FAILED")) {
                comes(runner, "BROKEN");
            } else if (states[used].equals("NEW")) {
                states[used] = "BUSY" + t;
                runner.stack.add(new Frame(used, types.get(used).parts(), 0));
            } else {
                made(runner);
            }
        }

        int result(int t) {
            Runner runner = runners.get(t);
            if (!runner.ended()) {
                return waitsFor(t) >= 0 && !anyCanStep() ? 50 : -1;
            }
            if (runner.endedWith == null) {
                return 0;
            }
            if (runner.endedWith.equals("MISSING")) {
                return 21;
            }
            if (runner.endedWith.equals("BROKEN")) {
                return 22;
            }
            int n = number(runner.endedWith);
            return runner.endedWith.startsWith("INIT") ? 31 + n - 100 : 11 + n;
        }
    }

    private final List<Type> types = new ArrayList<>();
    private final List<List<Part>> plans = List.of(new ArrayList<>(), new ArrayList<>(), new ArrayList<>());
    private World world = new World();
    private boolean begun;
    private final TreeSet<Long> outcomes = new TreeSet<>();
    private int orders;
    private int stuckOrders;

    int declare(int superclass, boolean isInterface, boolean constant, int value) {
        if (begun || superclass < -1 || superclass >= types.size() || superclass >= 0 && isInterface
                || superclass >= 0 && types.get(superclass).isInterface) {
            return REFUSED;
        }
        if (types.size() == 8) {
            return FULL;
        }
        Type type = new Type();
        type.superclass = superclass;
        type.isInterface = isInterface;
        type.constant = constant;
        type.value = value;
        types.add(type);
        outcomes.clear();
        return types.size() - 1;
    }

    int inherit(int c, int i, boolean defaulted) {
        if (begun || c < 0 || c >= types.size() || types.get(c).isInterface) {
            return REFUSED;
        }
        Type type = types.get(c);
        if (i < 0 || i >= c || !types.get(i).isInterface || type.interfaces.contains(i)) {
            return REFUSED;
        }
        if (type.interfaces.size() == 2) {
            return FULL;
        }
        type.interfaces.add(i);
        type.defaulted.add(defaulted);
        outcomes.clear();
        return type.interfaces.size();
    }

    private static boolean within(int x, int low, int high) {
        return low <= x && x <= high;
    }

    int act(int c, int action, int a, int b) {
        if (begun || c < 0 || c >= types.size() || !within(action, 0, 6)
                || action == 0 && !within(a, 0, 7)
                || (action == 3 || action == 4) && !within(a, 0, 9)
                || action == 2 && !(within(a, 0, 1) && within(b, 0, 7))) {
            return REFUSED;
        }
        return added(types.get(c).actions, 5, new Part(true, action, a, b));
    }

    int plan(int t, int action, int a) {
        if (begun || !within(t, 0, 2) || action != 0 && action != 5 && action != 6
                || action == 0 && !within(a, 0, 7)) {
            return REFUSED;
        }
        return added(plans.get(t), 3, new Part(true, action, a, 0));
    }

    private int added(List<Part> parts, int most, Part part) {
        if (parts.size() == most) {
            return FULL;
        }
        parts.add(part);
        outcomes.clear();
        return parts.size();
    }

    int step(int t) {
        if (!within(t, 0, 2) || world.runners.get(t).ended()) {
            return REFUSED;
        }
        begun = true;
        if (!world.canStep(t)) {
            return 0;
        }
        world.step(t);
        return 1;
    }

    int reset() {
        int steps = world.steps;
        world = new World();
        begun = false;
        return steps;
    }

    int state(int c) {
        if (c < 0 || c >= types.size()) {
            return REFUSED;
        }
        String state = world.states[c];
        if (state.startsWith("BUSY")) {
            return 4 + Integer.parseInt(state.substring(4));
        }
        return List.of("NEW", "DONE", "FAILED").indexOf(state);
    }

    long statics(int c, int k) {
        if (c < 0 || c >= types.size() || !within(k, 0, 1)) {
            return NONE;
        }
        if (k == 0) {
            return world.statics[c];
        }
        return types.get(c).constant ? types.get(c).value : 0;
    }

    int result(int t) {
        return within(t, 0, 2) ? world.result(t) : REFUSED;
    }

    int inside(int t) {
        return within(t, 0, 2) ? world.runners.get(t).top().type : REFUSED;
    }

    int waitsFor(int t) {
        return within(t, 0, 2) ? world.waitsFor(t) : REFUSED;
    }

    long logged(int k) {
        return k >= 0 && k < world.log.size() ? world.log.get(k) : NONE;
    }

    int explore() {
        outcomes.clear();
        orders = 0;
        stuckOrders = 0;
        Set<Long> found = new HashSet<>();
        goOn(new World(), found);
        if (orders > 3000) {
            orders = 0;
            stuckOrders = 0;
            return FULL;
        }
        outcomes.addAll(found);
        return outcomes.size();
    }

    private void goOn(World from, Set<Long> found) {
        if (!from.anyCanStep()) {
            orders++;
            found.add(10000L * from.result(0) + 100L * from.result(1) + from.result(2));
            if (from.result(0) == 50 || from.result(1) == 50 || from.result(2) == 50) {
                stuckOrders++;
            }
        }
        for (int t = 0; t < 3 && orders <= 3000; t++) {
            if (from.canStep(t)) {
                World next = from.copy();
                next.step(t);
                goOn(next, found);
            }
        }
    }

    long outcome(int k) {
        return k >= 0 && k < outcomes.size() ? new ArrayList<>(outcomes).get(k) : NONE;
    }

    int count(int what) {
        return switch (what) {
            case 0 -> types.size();
            case 1 -> world.steps;
            case 2 -> world.log.size();
            case 3 -> orders;
            case 4 -> stuckOrders;
            case 5 -> begun ? 1 : 0;
            default -> REFUSED;
        };
    }
}
