/** Promise 8, state: each boundary that the document names, by its sentence. */
public final class Promise08Test {
    private static final Due due = new Due("Promise 8, state");

    public static void main(String[] args) {
        newOnes();
        busyByEachThread();
        done();
        failed();
        busyUntilTheFrameGoes();
        notDeclared();
        theLastClass();
        due.end();
    }

    private static void newOnes() {
        due.by("0 NEW");
        ClassStarter x = new ClassStarter();
        for (int c = 0; c <= 7; c++) {
            x.declare(-1, c % 2 == 0, false, 0);
            due.is("state(" + c + ")", x.state(c), 0);
        }
    }

    private static void busyByEachThread() {
        due.by("4 + t BUSY by thread t");
        for (int t = 0; t <= 2; t++) {
            ClassStarter x = new ClassStarter();
            x.declare(-1, false, false, 0);
            x.declare(0, false, false, 0);
            x.plan(t, 0, 1);
            x.step(t);
            due.is("the class", x.state(1), 4 + t);
            due.is("its superclass is new yet", x.state(0), 0);
            x.step(t);
            due.is("the class below", x.state(1), 4 + t);
            due.is("its superclass", x.state(0), 4 + t);
        }
    }

    private static void done() {
        due.by("1 DONE");
        ClassStarter x = new ClassStarter();
        x.declare(-1, true, false, 0);
        x.plan(2, 0, 0);
        x.plan(2, 0, 0);
        x.step(2);
        due.is("behind its last part", x.state(0), 6);
        x.step(2);
        due.is("done", x.state(0), 1);
        x.step(2);
        due.is("done after one more use", x.state(0), 1);
    }

    private static void failed() {
        due.by("2 FAILED");
        ClassStarter x = new ClassStarter();
        x.declare(-1, false, false, 0);
        x.act(0, 4, 0, 0);
        for (int t = 0; t <= 1; t++) {
            x.plan(t, 0, 0);
        }
        for (int k = 0; k < 3; k++) {
            x.step(0);
        }
        due.is("failed", x.state(0), 2);
        x.step(1);
        due.is("failed after one more use", x.state(0), 2);
    }

    private static void busyUntilTheFrameGoes() {
        due.by("There is a PENDING fault: its class is FAILED and the FRAME goes.");
        ClassStarter x = new ClassStarter();
        x.declare(-1, false, false, 0);
        x.act(0, 3, 0, 0);
        x.plan(1, 0, 0);
        x.step(1);
        x.step(1);
        due.is("the fault is pending", x.state(0), 5);
        x.step(1);
        due.is("failed", x.state(0), 2);
    }

    private static void notDeclared() {
        due.by("REFUSED if class c is not declared.");
        int[] never = {Integer.MIN_VALUE, -2, -1, 8, 9, Integer.MAX_VALUE};
        ClassStarter x = new ClassStarter();
        for (int count = 0; count <= 8; count++) {
            for (int c : never) {
                due.is("state(" + c + ")", x.state(c), -1);
            }
            for (int c = 0; c <= 7; c++) {
                due.is("state(" + c + ") of " + count, x.state(c), c < count ? 0 : -1);
            }
            x.declare(-1, false, false, 0);
        }
    }

    private static void theLastClass() {
        due.by("4 + t BUSY by thread t");
        ClassStarter x = new ClassStarter();
        for (int c = 0; c <= 7; c++) {
            x.declare(-1, false, false, 0);
        }
        x.plan(2, 0, 7);
        x.step(2);
        due.is("state(7)", x.state(7), 6);
        due.is("state(6)", x.state(6), 0);
        x.step(2);
        due.is("state(7)", x.state(7), 1);
    }
}
