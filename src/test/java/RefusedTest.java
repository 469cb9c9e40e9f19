/**
 * Terms, the last paragraph: a call that throws changes nothing, and the tape stays; for each
 * method that throws and each exception that it names. Of two objects that were made alike, one
 * makes the call, and nothing may tell it from the other then.
 */
public final class RefusedTest {
    private static final int LOWEST = Integer.MIN_VALUE;
    private static final int HIGHEST = Integer.MAX_VALUE;
    private static final String LONGEST = "abcdefghijklmnopqrstuvwxyz01234";

    /** What an object went through before the call. */
    private interface Past {
        void of(TreePress x);
    }

    /** A call that the document wants refused. */
    private interface Wrong {
        int call(TreePress x);
    }

    public static void main(String[] args) {
        feed();
        end();
        openWithoutName();
        openOfTooMuch();
        propertyWithoutName();
        propertyBehindNodes();
        propertyOfTooMuch();
        close();
        laid();
        node();
        about();
        nodeName();
        name();
        value();
        seek();
        Check.finish();
    }

    private static void argument(String what, Past past, Wrong wrong) {
        refused(what, IllegalArgumentException.class, past, wrong);
    }

    private static void state(String what, Past past, Wrong wrong) {
        refused(what, IllegalStateException.class, past, wrong);
    }

    private static void index(String what, Past past, Wrong wrong) {
        refused(what, IndexOutOfBoundsException.class, past, wrong);
    }

    private static void refused(String what, Class<? extends RuntimeException> due, Past past,
            Wrong wrong) {
        TreePress x = new TreePress();
        TreePress other = new TreePress();
        past.of(x);
        past.of(other);
        Check.refused(what, due, () -> wrong.call(x));
        sameTree(what, other, x);
        sameLaid(what, other, x);
        int length = lengthOfTape(other);
        Check.same(what + ": tape", length, lengthOfTape(x));
        samePlace(what, other, x);
        sameTape(what, length, other, x);
    }

    private static void sameTree(String what, TreePress due, TreePress x) {
        Check.same(what + ": nodes", due.nodes(), x.nodes());
        Check.same(what + ": properties", due.properties(), x.properties());
        int nodes = Math.min(due.nodes(), x.nodes());
        // Few of many, so that the calls stay as few as the document allows.
        for (int i = nodes - 1; i >= 0; i -= 1 + nodes / 8) {
            for (int asked = 0; asked < 4; asked++) {
                Check.same(what + ": node " + i, due.node(i, asked), x.node(i, asked));
            }
            for (int j = 0; j < Math.min(due.node(i, 3), x.node(i, 3)); j++) {
                Check.same(what + ": its name", due.nodeName(i, j), x.nodeName(i, j));
            }
        }
        int properties = Math.min(due.properties(), x.properties());
        for (int i = properties - 1; i >= 0; i -= 1 + properties / 8) {
            sameProperty(what + ": property " + i, i, due, x);
        }
    }

    private static void sameProperty(String what, int i, TreePress due, TreePress x) {
        for (int asked = 0; asked < 3; asked++) {
            Check.same(what, due.about(i, asked), x.about(i, asked));
        }
        for (int j = 0; j < Math.min(due.about(i, 1), x.about(i, 1)); j++) {
            Check.same(what + ": name", due.name(i, j), x.name(i, j));
        }
        int length = Math.min(due.about(i, 2), x.about(i, 2));
        for (int j = 0; j < length; j += 1 + length / 8) {
            Check.same(what + ": value", due.value(i, j), x.value(i, j));
        }
    }

    private static int laidOr(TreePress x, int i) {
        try {
            return x.laid(i);
        } catch (IndexOutOfBoundsException e) {
            return -1;
        }
    }

    private static void sameLaid(String what, TreePress due, TreePress x) {
        int byteDue = 0;
        for (int i = 0; byteDue >= 0; i++) {
            byteDue = laidOr(due, i);
            Check.same(what + ": laid " + i, byteDue, laidOr(x, i));
        }
    }

    /** A tape that takes no more is measured by cutting: only as many as it has are taken. */
    private static int lengthOfTape(TreePress x) {
        try {
            return Check.tapeLength(x);
        } catch (IllegalStateException e) {
            int length = 65536;
            while (!mayCut(x, length)) {
                length--;
            }
            return length;
        }
    }

    private static boolean mayCut(TreePress x, int n) {
        try {
            x.end(n);
            return true;
        } catch (IllegalArgumentException e) {
            return false;
        }
    }

    private static int closeOr(TreePress x) {
        try {
            return x.close();
        } catch (IllegalArgumentException e) {
            return -1;
        }
    }

    private static void samePlace(String what, TreePress due, TreePress x) {
        int place = 0;
        while (place >= 0) {
            place = closeOr(due);
            Check.same(what + ": place", place, closeOr(x));
        }
    }

    /** The tape is told by making a property of it; all tapes here begin with a byte of names. */
    private static void sameTape(String what, int length, TreePress due, TreePress x) {
        if (length == 0) {
            return;
        }
        if (length > 16384) {
            due.end(16384);
            x.end(16384);
        }
        due.clear();
        x.clear();
        Check.same(what + ": tape as a property", due.property(1), x.property(1));
        sameProperty(what + ": tape", 0, due, x);
    }

    /** Nodes 0, 1, 2 and properties 0, 1, 2; 125 bytes laid; the place is node 2. */
    private static void some(TreePress x) {
        Check.property(x, "first", "\0\u00ff");
        Check.open(x, "a");
        Check.property(x, "second", "");
        x.lay();
        Check.open(x, "b");
        Check.property(x, "third", "12345");
    }

    private static void someAndTape(TreePress x) {
        some(x);
        Check.type(x, "tape");
    }

    private static void manyProperties(TreePress x, int count, int nameAt) {
        Made made = new Made().node("");
        for (int i = 0; i < count; i++) {
            made.property(nameAt, "");
        }
        Check.read(x, made.close().last().row("p\0" + LONGEST + "\0"));
    }

    /** So many bytes of names and values that there is room for one more. */
    private static void almostFull(TreePress x) {
        manyProperties(x, 400, 2);
        StringBuilder value = new StringBuilder();
        for (int i = 0; i < 3982; i++) {
            value.append((char) (i % 256));
        }
        Check.property(x, "v", value.toString());
    }

    /** More calls than the document speaks of: fewer can't fill the tape. */
    private static void feed() {
        state("feed", x -> {
            for (int i = 0; i < 3276; i++) {
                x.feed(0x74617065 + i, i, -i, 0, 1);
            }
        }, x -> x.feed(1, 2, 3, 4, 5));
        state("feed, one byte too many", x -> {
            for (int i = 0; i < 3276; i++) {
                x.feed(0x74617065 + i, i, -i, 0, 1);
            }
            x.end(65517);
        }, x -> x.feed(1, 2, 3, 4, 5));
    }

    private static int cut(TreePress x, int n) {
        x.end(n);
        return 0;
    }

    private static void end() {
        for (int n : new int[] {-1, 5, LOWEST, HIGHEST}) {
            argument("end " + n, RefusedTest::someAndTape, x -> cut(x, n));
        }
        for (int n : new int[] {-1, 1, 20, LOWEST, HIGHEST}) {
            argument("end " + n + " of nothing", RefusedTest::some, x -> cut(x, n));
        }
    }

    private static void openWithoutName() {
        String[] wrong = {"", "a/b", "a b", "a\0", "a\u007f", "a\u00ff", LONGEST + "5"};
        for (String tape : wrong) {
            argument("open", x -> {
                some(x);
                Check.type(x, tape);
            }, x -> x.open());
        }
    }

    private static void openOfTooMuch() {
        state("open, too many nodes", x -> {
            Made made = new Made().node("");
            for (int i = 1; i < 128; i++) {
                made.node("n").close();
            }
            Check.read(x, made.close().last().row());
            Check.type(x, "name");
        }, x -> x.open());
        state("open, too deep", x -> {
            for (int i = 1; i < 16; i++) {
                Check.open(x, "n" + i);
            }
            Check.type(x, "name");
        }, x -> x.open());
        state("open, too many bytes", x -> {
            almostFull(x);
            Check.type(x, "nn");
        }, x -> x.open());
    }

    private static void propertyWithoutName() {
        for (int k : new int[] {0, -1, 5, 32, LOWEST, HIGHEST}) {
            argument("property " + k, RefusedTest::someAndTape, x -> x.property(k));
        }
        argument("property of nothing", RefusedTest::some, x -> x.property(0));
        argument("property of one byte of nothing", RefusedTest::some, x -> x.property(1));
        argument("property, 47 in its name", x -> {
            some(x);
            Check.type(x, "a/b");
        }, x -> x.property(2));
        argument("property, a name of 32", x -> {
            some(x);
            Check.type(x, LONGEST + "56");
        }, x -> x.property(32));
    }

    private static void propertyBehindNodes() {
        argument("property, the place has a node", x -> {
            someAndTape(x);
            x.close();
        }, x -> x.property(2));
        argument("property, the first node has nodes", x -> {
            Check.read(x, new Made().node("").node("n").close().close().last().row());
            Check.type(x, "tape");
        }, x -> x.property(4));
    }

    private static void propertyOfTooMuch() {
        state("property, too many", x -> {
            manyProperties(x, 512, 0);
            Check.type(x, "tape");
        }, x -> x.property(2));
        state("property, too many bytes of its name", x -> {
            almostFull(x);
            Check.type(x, "nn");
        }, x -> x.property(2));
        state("property, too many bytes of its value", x -> {
            almostFull(x);
            Check.type(x, "nv");
        }, x -> x.property(1));
    }

    private static void close() {
        argument("close of a new one", x -> Check.type(x, "tape"), x -> x.close());
        argument("close of the first node", x -> {
            someAndTape(x);
            x.close();
            x.close();
        }, x -> x.close());
        argument("close behind clear", x -> {
            someAndTape(x);
            x.clear();
        }, x -> x.close());
    }

    private static void laid() {
        index("laid, nothing was", x -> Check.type(x, "tape"), x -> x.laid(0));
        for (int i : new int[] {-1, 125, 126, LOWEST, HIGHEST}) {
            index("laid " + i, RefusedTest::someAndTape, x -> x.laid(i));
        }
    }

    private static void node() {
        for (int i : new int[] {-1, 3, LOWEST, HIGHEST}) {
            index("node " + i, RefusedTest::someAndTape, x -> x.node(i, 0));
        }
        for (int what : new int[] {-1, 4, LOWEST, HIGHEST}) {
            argument("node, what " + what, RefusedTest::someAndTape, x -> x.node(1, what));
        }
    }

    private static void about() {
        for (int i : new int[] {-1, 3, LOWEST, HIGHEST}) {
            index("about " + i, RefusedTest::someAndTape, x -> x.about(i, 0));
        }
        for (int what : new int[] {-1, 3, LOWEST, HIGHEST}) {
            argument("about, what " + what, RefusedTest::someAndTape, x -> x.about(1, what));
        }
    }

    private static void nodeName() {
        for (int i : new int[] {-1, 3, LOWEST, HIGHEST}) {
            index("nodeName of " + i, RefusedTest::someAndTape, x -> x.nodeName(i, 0));
        }
        for (int j : new int[] {-1, 1, LOWEST, HIGHEST}) {
            index("nodeName, byte " + j, RefusedTest::someAndTape, x -> x.nodeName(1, j));
        }
        index("nodeName of the first", RefusedTest::someAndTape, x -> x.nodeName(0, 0));
    }

    private static void name() {
        for (int i : new int[] {-1, 3, LOWEST, HIGHEST}) {
            index("name of " + i, RefusedTest::someAndTape, x -> x.name(i, 0));
        }
        for (int j : new int[] {-1, 6, LOWEST, HIGHEST}) {
            index("name, byte " + j, RefusedTest::someAndTape, x -> x.name(1, j));
        }
    }

    private static void value() {
        for (int i : new int[] {-1, 3, LOWEST, HIGHEST}) {
            index("value of " + i, RefusedTest::someAndTape, x -> x.value(i, 0));
        }
        for (int j : new int[] {-1, 5, LOWEST, HIGHEST}) {
            index("value, byte " + j, RefusedTest::someAndTape, x -> x.value(2, j));
        }
        index("value of no byte", RefusedTest::someAndTape, x -> x.value(1, 0));
    }

    private static void seek() {
        for (int i : new int[] {-1, 3, LOWEST, HIGHEST}) {
            index("seek in " + i, x -> {
                some(x);
                Check.type(x, "first");
            }, x -> x.seek(i));
        }
    }
}
