import java.util.Arrays;

/**
 * Classes that are initialised when they are first used, by several threads: stepped by hand, and
 * gone through in all orders. The words in capitals are those of the document's terms.
 */
public final class ClassStarter {
    public static final int REFUSED = -1;
    public static final int FULL = -2;
    public static final long NONE = 1000000000000L;

    private static final int MOST_CLASSES = 8;
    private static final int MOST_INTERFACES = 2;
    private static final int MOST_CLASS_ACTIONS = 5;
    private static final int MOST_PLAN_ACTIONS = 3;
    private static final int MOST_USES_AHEAD = 1 + MOST_INTERFACES;
    private static final int MOST_ORDERS = 3000;
    private static final int THREADS = 3;
    private static final int STATICS = 2;
    private static final int NUMBERS = 10;
    private static final int NO_CLASS = -1;

    /** The frame of a class has the class's number; the frame of thread t's plan is PLANS + t. */
    private static final int PLANS = MOST_CLASSES;
    private static final int FRAMES = PLANS + THREADS;

    /** Between two resets a class begins and ends once at the most, and each part is done once. */
    private static final int MOST_STEPS = THREADS * MOST_PLAN_ACTIONS
            + MOST_CLASSES * (MOST_USES_AHEAD + MOST_CLASS_ACTIONS + 2);
    private static final int MOST_LOGGED = THREADS * MOST_PLAN_ACTIONS + MOST_CLASSES * MOST_CLASS_ACTIONS;

    private static final int USE = 0;
    private static final int PUT = 1;
    private static final int COPY = 2;
    private static final int RAISE_EXCEPTION = 3;
    private static final int RAISE_ERROR = 4;
    private static final int LOG = 5;
    private static final int GUARD = 6;
    private static final int NO_ACTION = -1;

    private static final int NEW = 0;
    private static final int DONE = 1;
    private static final int FAILED = 2;
    private static final int BUSY = 4;

    private static final int STUCK = 50;
    private static final int NO_RESULT = -1;

    private final Program program;
    private final Machine machine;
    private final Explorer explorer;

    public ClassStarter() {
        program = new Program();
        machine = new Machine(program);
        explorer = new Explorer(new Machine(program));
    }

    public int declare(int superclass, boolean isInterface, boolean constant, int value) {
        if (machine.hasBegun()) {
            return REFUSED;
        }
        return changed(program.addClass(superclass, isInterface, constant, value));
    }

    public int inherit(int c, int i, boolean defaulted) {
        if (machine.hasBegun()) {
            return REFUSED;
        }
        return changed(program.addInterface(c, i, defaulted));
    }

    public int act(int c, int action, int a, int b) {
        if (machine.hasBegun()) {
            return REFUSED;
        }
        return changed(program.addAction(c, action, a, b));
    }

    public int plan(int t, int action, int a) {
        if (machine.hasBegun()) {
            return REFUSED;
        }
        return changed(program.addPlanned(t, action, a));
    }

    public int step(int t) {
        if (!isThread(t) || machine.hasEnded(t)) {
            return REFUSED;
        }
        if (machine.awaited(t) != NO_CLASS) {
            return 0;
        }
        machine.advance(t);
        return 1;
    }

    public int reset() {
        int steps = machine.steps();
        machine.restart();
        return steps;
    }

    public int state(int c) {
        return program.isDeclared(c) ? machine.stateOf(c) : REFUSED;
    }

    public long statics(int c, int k) {
        return program.isDeclared(c) && k >= 0 && k < STATICS ? machine.staticOf(c, k) : NONE;
    }

    public int result(int t) {
        return isThread(t) ? machine.resultOf(t) : REFUSED;
    }

    public int inside(int t) {
        return isThread(t) && machine.isInClass(t) ? machine.topFrame(t) : REFUSED;
    }

    public int waitsFor(int t) {
        int awaited = isThread(t) ? machine.awaited(t) : NO_CLASS;
        return awaited == NO_CLASS ? REFUSED : awaited;
    }

    public long logged(int k) {
        return k >= 0 && k < machine.logSize() ? machine.logEntry(k) : NONE;
    }

    public int explore() {
        if (!explorer.isKnown()) {
            explorer.goThrough();
        }
        return explorer.answer();
    }

    public long outcome(int k) {
        return k >= 0 && k < explorer.foundCount() ? explorer.foundAt(k) : NONE;
    }

    public int count(int what) {
        switch (what) {
            case 0:
                return program.classCount();
            case 1:
                return machine.steps();
            case 2:
                return machine.logSize();
            case 3:
                return explorer.orders();
            case 4:
                return explorer.stuckOrders();
            case 5:
                return machine.hasBegun() ? 1 : 0;
            default:
                return REFUSED;
        }
    }

    /** What was found before a change tells nothing of the changed program. */
    private int changed(int answer) {
        if (answer != REFUSED && answer != FULL) {
            explorer.forget();
        }
        return answer;
    }

    private static boolean isThread(int t) {
        return t >= 0 && t < THREADS;
    }

    /**
     * The numbers of the faults. Each that can end a thread is its own RESULT, so that a thread's
     * fault need not be translated.
     */
    private static final class Fault {
        static final int NO_FAULT = 0;
        static final int EXCEPTION = 1;
        static final int ERROR = 11;
        static final int MISSING = 21;
        static final int BROKEN = 22;
        static final int INIT = 31;

        private Fault() {
        }

        /** What the fault is when it has left an initialiser. */
        static int outside(int fault) {
            return isException(fault) ? INIT + fault - EXCEPTION : fault;
        }

        /** The number that a GUARD logs for it. */
        static int number(int fault) {
            if (fault >= INIT) {
                return 100 + fault - INIT;
            }
            if (fault == MISSING) {
                return -1;
            }
            if (fault == BROKEN) {
                return -2;
            }
            return isException(fault) ? fault - EXCEPTION : fault - ERROR;
        }

        private static boolean isException(int fault) {
            return fault >= EXCEPTION && fault < EXCEPTION + NUMBERS;
        }
    }

    /** The PARTS of one FRAME: first the uses ahead of all actions, each held as a USE, then the actions. */
    private static final class Script {
        private final int mostActions;
        private final int[] actions;
        private final int[] firstOperands;
        private final int[] secondOperands;
        private int usesAhead;
        private int length;

        Script(int mostUsesAhead, int mostActions) {
            this.mostActions = mostActions;
            actions = new int[mostUsesAhead + mostActions];
            firstOperands = new int[mostUsesAhead + mostActions];
            secondOperands = new int[mostUsesAhead + mostActions];
        }

        /** An interface may be inherited after actions were added, which then move up. */
        void addUseAhead(int c) {
            if (length >= actions.length) {
                return;
            }
            int behind = length - usesAhead;
            System.arraycopy(actions, usesAhead, actions, usesAhead + 1, behind);
            System.arraycopy(firstOperands, usesAhead, firstOperands, usesAhead + 1, behind);
            System.arraycopy(secondOperands, usesAhead, secondOperands, usesAhead + 1, behind);
            length++;
            write(usesAhead, USE, c, 0);
            usesAhead++;
        }

        int addLast(int action, int a, int b) {
            if (length - usesAhead >= mostActions) {
                return FULL;
            }
            write(length, action, a, b);
            length++;
            return length - usesAhead;
        }

        private void write(int part, int action, int a, int b) {
            actions[part] = action;
            firstOperands[part] = a;
            secondOperands[part] = b;
        }

        int length() {
            return length;
        }

        int actionAt(int part) {
            return part < length ? actions[part] : NO_ACTION;
        }

        int firstOperandAt(int part) {
            return firstOperands[part];
        }

        int secondOperandAt(int part) {
            return secondOperands[part];
        }

        boolean isGuarded(int part) {
            return part > 0 && actions[part - 1] == GUARD;
        }
    }

    /** What is declared and planned; no step changes it. */
    private static final class Program {
        private final boolean[] interfaces = new boolean[MOST_CLASSES];
        private final boolean[] constants = new boolean[MOST_CLASSES];
        private final int[] constantValues = new int[MOST_CLASSES];
        private final int[] inherited = new int[MOST_CLASSES * MOST_INTERFACES];
        private final int[] inheritedCounts = new int[MOST_CLASSES];
        private final Script[] scripts = new Script[FRAMES];
        private int classCount;

        Program() {
            for (int c = 0; c < MOST_CLASSES; c++) {
                scripts[c] = new Script(MOST_USES_AHEAD, MOST_CLASS_ACTIONS);
            }
            for (int t = 0; t < THREADS; t++) {
                scripts[PLANS + t] = new Script(0, MOST_PLAN_ACTIONS);
            }
        }

        int classCount() {
            return classCount;
        }

        boolean isDeclared(int c) {
            return c >= 0 && c < classCount;
        }

        Script script(int frame) {
            return scripts[frame];
        }

        /** Static 1 never changes: it is the CONSTANT's value, or 0. */
        int secondStatic(int c) {
            return constantValues[c];
        }

        int addClass(int superclass, boolean isInterface, boolean constant, int value) {
            if (superclass != NO_CLASS && (isInterface || !isDeclared(superclass) || interfaces[superclass])) {
                return REFUSED;
            }
            if (classCount >= MOST_CLASSES) {
                return FULL;
            }
            int c = classCount;
            classCount++;
            interfaces[c] = isInterface;
            constants[c] = constant;
            constantValues[c] = constant ? value : 0;
            if (superclass != NO_CLASS) {
                scripts[c].addUseAhead(superclass);
            }
            return c;
        }

        int addInterface(int c, int i, boolean defaulted) {
            if (!isDeclared(c) || interfaces[c] || i < 0 || i >= c || !interfaces[i] || inherits(c, i)) {
                return REFUSED;
            }
            if (inheritedCounts[c] >= MOST_INTERFACES) {
                return FULL;
            }
            inherited[c * MOST_INTERFACES + inheritedCounts[c]] = i;
            inheritedCounts[c]++;
            if (defaulted) {
                scripts[c].addUseAhead(i);
            }
            return inheritedCounts[c];
        }

        private boolean inherits(int c, int i) {
            for (int k = 0; k < inheritedCounts[c]; k++) {
                if (inherited[c * MOST_INTERFACES + k] == i) {
                    return true;
                }
            }
            return false;
        }

        int addAction(int c, int action, int a, int b) {
            if (!isDeclared(c) || !isAction(action, a, b)) {
                return REFUSED;
            }
            return scripts[c].addLast(action, a, b);
        }

        int addPlanned(int t, int action, int a) {
            boolean forPlans = action == USE || action == LOG || action == GUARD;
            if (!isThread(t) || !forPlans || !isAction(action, a, 0)) {
                return REFUSED;
            }
            return scripts[PLANS + t].addLast(action, a, 0);
        }

        private static boolean isAction(int action, int a, int b) {
            switch (action) {
                case USE:
                    return isBelow(a, MOST_CLASSES);
                case COPY:
                    return isBelow(a, STATICS) && isBelow(b, MOST_CLASSES);
                case RAISE_EXCEPTION:
                case RAISE_ERROR:
                    return isBelow(a, NUMBERS);
                case PUT:
                case LOG:
                case GUARD:
                    return true;
                default:
                    return false;
            }
        }

        private static boolean isBelow(int operand, int bound) {
            return operand >= 0 && operand < bound;
        }

        /** The class, declared or not, that a part is a use of; NO_CLASS if it is no use. */
        int usedBy(int frame, int part) {
            Script script = scripts[frame];
            switch (script.actionAt(part)) {
                case USE:
                    return script.firstOperandAt(part);
                case COPY:
                    int c = script.secondOperandAt(part);
                    return script.firstOperandAt(part) == 1 && constants[c] ? NO_CLASS : c;
                default:
                    return NO_CLASS;
            }
        }
    }

    /** Where all threads and classes are since the last restart. */
    private static final class Machine {
        /*
         * All that a step changes, but for the log's ints, is one row, so that a state can be kept
         * and brought back by one copy. A class has at most one frame at a time, so that a frame's
         * place is held by its number; THREAD_FAULT is PENDING while a class is on top, and what
         * the thread ended with when the plan is.
         */
        private static final int CLASS_STATE = 0;
        private static final int FIRST_STATIC = CLASS_STATE + MOST_CLASSES;
        private static final int FRAME_BELOW = FIRST_STATIC + MOST_CLASSES;
        private static final int FRAME_PART = FRAME_BELOW + MOST_CLASSES;
        private static final int TOP_FRAME = FRAME_PART + FRAMES;
        private static final int THREAD_FAULT = TOP_FRAME + THREADS;
        private static final int STEP_COUNT = THREAD_FAULT + THREADS;
        private static final int LOG_SIZE = STEP_COUNT + 1;
        static final int CELLS = LOG_SIZE + 1;

        private final Program program;
        private final int[] cells = new int[CELLS];
        private final int[] log = new int[MOST_LOGGED];

        Machine(Program program) {
            this.program = program;
            restart();
        }

        void restart() {
            Arrays.fill(cells, 0);
            for (int t = 0; t < THREADS; t++) {
                cells[TOP_FRAME + t] = PLANS + t;
            }
        }

        void keepIn(int[] row, int at) {
            System.arraycopy(cells, 0, row, at, CELLS);
        }

        void bringBack(int[] row, int at) {
            System.arraycopy(row, at, cells, 0, CELLS);
        }

        int steps() {
            return cells[STEP_COUNT];
        }

        /** A thread WAITS only for one that has made a step, so the first call that is not refused makes one. */
        boolean hasBegun() {
            return cells[STEP_COUNT] > 0;
        }

        int stateOf(int c) {
            return cells[CLASS_STATE + c];
        }

        int staticOf(int c, int k) {
            return k == 0 ? cells[FIRST_STATIC + c] : program.secondStatic(c);
        }

        int logSize() {
            return cells[LOG_SIZE];
        }

        int logEntry(int k) {
            return log[k];
        }

        int topFrame(int t) {
            return cells[TOP_FRAME + t];
        }

        boolean isInClass(int t) {
            return cells[TOP_FRAME + t] < PLANS;
        }

        boolean hasEnded(int t) {
            return !isInClass(t) && (cells[THREAD_FAULT + t] != Fault.NO_FAULT || isBehindLast(topFrame(t)));
        }

        private boolean isBehindLast(int frame) {
            return cells[FRAME_PART + frame] >= program.script(frame).length();
        }

        /** The class that a thread WAITS for, or NO_CLASS. */
        int awaited(int t) {
            if (cells[THREAD_FAULT + t] != Fault.NO_FAULT) {
                return NO_CLASS;
            }
            int frame = topFrame(t);
            int used = program.usedBy(frame, cells[FRAME_PART + frame]);
            return used != NO_CLASS && stateOf(used) >= BUSY && stateOf(used) != BUSY + t ? used : NO_CLASS;
        }

        /** The first thread from the given one on that can make a STEP; THREADS if there is none. */
        int nextAble(int from) {
            for (int t = from; t < THREADS; t++) {
                if (!hasEnded(t) && awaited(t) == NO_CLASS) {
                    return t;
                }
            }
            return THREADS;
        }

        int resultOf(int t) {
            return hasEnded(t) || nextAble(0) == THREADS ? lastResultOf(t) : NO_RESULT;
        }

        /** The RESULT of a thread that has ENDED, or of any when no thread can make a STEP. */
        int lastResultOf(int t) {
            return hasEnded(t) ? cells[THREAD_FAULT + t] : STUCK;
        }

        /** One STEP of a thread that can make one. */
        void advance(int t) {
            cells[STEP_COUNT]++;
            int frame = topFrame(t);
            int used = program.usedBy(frame, cells[FRAME_PART + frame]);
            if (cells[THREAD_FAULT + t] != Fault.NO_FAULT) {
                failTop(t);
            } else if (isBehindLast(frame)) {
                finishTop(t);
            } else if (used != NO_CLASS) {
                use(t, used);
            } else {
                perform(t);
            }
        }

        private void failTop(int t) {
            int fault = cells[THREAD_FAULT + t];
            cells[THREAD_FAULT + t] = Fault.NO_FAULT;
            dropTop(t, FAILED);
            come(t, Fault.outside(fault));
        }

        private void finishTop(int t) {
            dropTop(t, DONE);
            makeUse(t);
        }

        private void dropTop(int t, int endState) {
            int c = topFrame(t);
            if (c < PLANS) {
                cells[CLASS_STATE + c] = endState;
                cells[TOP_FRAME + t] = cells[FRAME_BELOW + c];
            }
        }

        private void use(int t, int c) {
            if (!program.isDeclared(c)) {
                come(t, Fault.MISSING);
            } else if (stateOf(c) == NEW) {
                begin(t, c);
            } else if (stateOf(c) == FAILED) {
                come(t, Fault.BROKEN);
            } else {
                makeUse(t);
            }
        }

        private void begin(int t, int c) {
            cells[CLASS_STATE + c] = BUSY + t;
            cells[FRAME_BELOW + c] = topFrame(t);
            cells[FRAME_PART + c] = 0;
            cells[TOP_FRAME + t] = c;
        }

        /** The use at which the top frame stands is MADE. */
        private void makeUse(int t) {
            int frame = topFrame(t);
            int part = cells[FRAME_PART + frame];
            Script script = program.script(frame);
            if (script.actionAt(part) == COPY) {
                cells[FIRST_STATIC + frame] = staticOf(script.secondOperandAt(part), script.firstOperandAt(part));
            }
            cells[FRAME_PART + frame]++;
        }

        /** The action at which the top frame stands, which is no use. */
        private void perform(int t) {
            int frame = topFrame(t);
            int part = cells[FRAME_PART + frame];
            Script script = program.script(frame);
            switch (script.actionAt(part)) {
                case RAISE_EXCEPTION:
                    come(t, Fault.EXCEPTION + script.firstOperandAt(part));
                    return;
                case RAISE_ERROR:
                    come(t, Fault.ERROR + script.firstOperandAt(part));
                    return;
                case PUT:
                    cells[FIRST_STATIC + frame] = script.secondOperandAt(part);
                    break;
                case COPY:
                    makeUse(t);
                    return;
                case LOG:
                    write(script.firstOperandAt(part));
                    break;
                default:
                    break;
            }
            cells[FRAME_PART + frame]++;
        }

        /** The fault COMES to the top frame. */
        private void come(int t, int fault) {
            int frame = topFrame(t);
            if (program.script(frame).isGuarded(cells[FRAME_PART + frame])) {
                write(Fault.number(fault));
                cells[FRAME_PART + frame]++;
            } else {
                cells[THREAD_FAULT + t] = fault;
            }
        }

        private void write(int number) {
            if (cells[LOG_SIZE] < log.length) {
                log[cells[LOG_SIZE]] = number;
                cells[LOG_SIZE]++;
            }
        }
    }

    /** Goes through all orders of STEPs, depth first, on a machine of its own. */
    private static final class Explorer {
        private static final int MOST_TURNS = 1000000;

        private final Machine machine;
        private final int[] kept = new int[MOST_STEPS * Machine.CELLS];
        /** For each depth the first thread that is not tried there yet. */
        private final int[] untried = new int[MOST_STEPS + 1];
        /** Grows when it must: most programs have few outcomes, though their orders are many. */
        private int[] found = new int[4];
        private int foundCount;
        private int orders;
        private int stuckOrders;
        private int depth;
        private boolean isKnown;
        private int answer;

        Explorer(Machine machine) {
            this.machine = machine;
        }

        int foundCount() {
            return foundCount;
        }

        int foundAt(int k) {
            return found[k];
        }

        int orders() {
            return orders;
        }

        int stuckOrders() {
            return stuckOrders;
        }

        /** The counts of orders stay: they tell of the last exploring, whatever came after it. */
        void forget() {
            foundCount = 0;
            isKnown = false;
        }

        /** The orders hang on the program alone: while that is the same, so is the answer. */
        boolean isKnown() {
            return isKnown;
        }

        int answer() {
            return answer;
        }

        void goThrough() {
            begin();
            for (int turn = 0; turn < MOST_TURNS && depth >= 0 && orders <= MOST_ORDERS; turn++) {
                int t = machine.nextAble(untried[depth]);
                if (t < THREADS && depth < MOST_STEPS) {
                    goDown(t);
                    machine.advance(t);
                } else {
                    if (untried[depth] == 0) {
                        endOrder();
                    }
                    goUp();
                }
            }
            finish();
        }

        private void begin() {
            dropAll();
            machine.restart();
            depth = 0;
            untried[0] = 0;
        }

        private void finish() {
            answer = foundCount;
            if (depth >= 0 || orders > MOST_ORDERS) {
                dropAll();
                answer = FULL;
            }
            isKnown = true;
        }

        private void dropAll() {
            foundCount = 0;
            orders = 0;
            stuckOrders = 0;
        }

        /** Keeps the state before its first step only: coming back up lays it anew for the others. */
        private void goDown(int t) {
            if (untried[depth] == 0) {
                machine.keepIn(kept, depth * Machine.CELLS);
            }
            untried[depth] = t + 1;
            depth++;
            untried[depth] = 0;
        }

        private void goUp() {
            depth--;
            if (depth >= 0) {
                machine.bringBack(kept, depth * Machine.CELLS);
            }
        }

        private void endOrder() {
            orders++;
            int outcome = 0;
            boolean isStuck = false;
            for (int t = 0; t < THREADS; t++) {
                int result = machine.lastResultOf(t);
                outcome = 100 * outcome + result;
                isStuck = isStuck || result == STUCK;
            }
            if (isStuck) {
                stuckOrders++;
            }
            find(outcome);
        }

        /** The outcomes found stay in order, each once. */
        private void find(int outcome) {
            int at = foundCount;
            while (at > 0 && found[at - 1] > outcome) {
                at--;
            }
            if (at > 0 && found[at - 1] == outcome) {
                return;
            }
            if (foundCount >= found.length) {
                found = Arrays.copyOf(found, 2 * found.length);
            }
            System.arraycopy(found, at, found, at + 1, foundCount - at);
            found[at] = outcome;
            foundCount++;
        }
    }
}
