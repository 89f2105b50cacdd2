/** What many tests begin with. */
final class Given {
    private Given() {
    }

    /** An object with so many classes that have nothing. */
    static ClassStarter classes(int count) {
        ClassStarter x = new ClassStarter();
        for (int c = 0; c < count; c++) {
            x.declare(-1, false, false, 0);
        }
        return x;
    }
}
