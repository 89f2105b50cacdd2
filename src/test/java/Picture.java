/** All that an object answers to the questions that change nothing, as one text; some sixty calls. */
final class Picture {
    private Picture() {
    }

    static String of(ClassStarter x) {
        StringBuilder text = new StringBuilder("counts");
        for (int what = 0; what <= 5; what++) {
            text.append(' ').append(x.count(what));
        }
        text.append("; classes");
        for (int c = 0; c <= 7; c++) {
            text.append(' ').append(x.state(c)).append('/').append(number(x.statics(c, 0)));
            text.append('/').append(number(x.statics(c, 1)));
        }
        text.append("; threads");
        for (int t = 0; t <= 2; t++) {
            text.append(' ').append(x.result(t)).append('/').append(x.inside(t)).append('/').append(x.waitsFor(t));
        }
        text.append("; logged");
        for (int k = 0; k <= x.count(2); k++) {
            text.append(' ').append(number(x.logged(k)));
        }
        text.append("; outcomes");
        for (int k = 0; k == 0 || x.outcome(k - 1) != ClassStarter.NONE; k++) {
            text.append(' ').append(number(x.outcome(k)));
        }
        return text.toString();
    }

    private static String number(long answer) {
        return answer == ClassStarter.NONE ? "none" : Long.toString(answer);
    }
}
