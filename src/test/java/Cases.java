/** What the tests of the document's sentences share: the names of answers, inputs out of range, a count. */
abstract class Cases {
    static final int OK = Table.OK, DOWN = Table.DOWN, NONE = Table.NONE;
    static final int BUSY = Table.BUSY, FULL = Table.FULL, BAD = Table.BAD;
    static final int OPEN = Table.OPEN, PREPARED = Table.PREPARED;
    static final int LEAST = Integer.MIN_VALUE, MOST = Integer.MAX_VALUE;
    static final int[] NO_TRANSACTION = {-1, 4, 5, 12, LEAST, MOST};
    static final int[] NO_RECORD = {-1, 12, 13, 48, LEAST, MOST};
    static final int[] NO_PAGE = {-1, 3, 4, 11, LEAST, MOST};

    private static Checks checks;
    private static String about = "";

    static void start(String name) {
        checks = new Checks(name);
    }

    /** The promise or term whose sentences come next. */
    static void about(String part) {
        about = part;
    }

    /** The document's words that the next tables test. */
    static void sentence(String words) {
        checks.part(about + ", \"" + words + "\"");
    }

    static Table table() {
        return new Table(checks);
    }

    static Checks checks() {
        return checks;
    }

    static void end() {
        checks.close();
    }
}
