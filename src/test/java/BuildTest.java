/** Promises 4 to 7: clear, open, property and close. */
public final class BuildTest {
    private static final String LONGEST = "abcdefghijklmnopqrstuvwxyz01234";

    public static void main(String[] args) {
        numbersAndPlaces();
        wrongNames();
        edgesOfNames();
        wrongCounts();
        propertiesOnlyBeforeNodes();
        valuesOfAnyBytes();
        clear();
        depthLimit();
        nodeLimit();
        propertyLimit();
        textLimitOfProperties();
        textLimitOfNodes();
        wrongArgumentsComeFirst();
        Check.finish();
    }

    private static void numbersAndPlaces() {
        TreePress x = new TreePress();
        Check.same("property of the first", 0, Check.property(x, "p", "1"));
        Check.same("open a", 1, Check.open(x, "a"));
        Check.same("property of a", 1, Check.property(x, "p", "2"));
        Check.same("open b in a", 2, Check.open(x, "b"));
        Check.same("close b", 1, x.close());
        Check.same("open c in a", 3, Check.open(x, "c"));
        Check.same("property of c", 2, Check.property(x, "q", ""));
        Check.same("close c", 1, x.close());
        Check.same("close a", 0, x.close());
        Check.badArgument("close the first", () -> x.close());
        Check.same("open a again, alike", 4, Check.open(x, "a"));
        Check.same("open in it", 5, Check.open(x, "a"));
        int[] parents = {TreePress.NONE, 0, 1, 1, 0, 4};
        for (int i = 0; i < parents.length; i++) {
            Check.same("node of " + i, parents[i], x.node(i, 0));
        }
        Check.same("close leaves the tape", 20, x.feed(0, 0, 0, 0, 0));
        Check.same("close", 4, x.close());
        Check.same("close", 0, x.close());
        Check.badArgument("close", () -> x.close());
        Check.same("the tape stays", 20, Check.tapeLength(x));
    }

    private static void wrongNames() {
        String[] wrong = {"", "a b", "/", "a/b", "/a", "a/", "\0", "a\0", "\u007f", "a\u0080",
            "\u00ff", " ", "a\n", LONGEST + "5", LONGEST + "/", LONGEST + LONGEST};
        for (String each : wrong) {
            TreePress x = new TreePress();
            Check.type(x, each);
            Check.badArgument("open '" + each + "'", () -> x.open());
            Check.badArgument("property '" + each + "'", () -> x.property(each.length()));
            Check.same("the tape stays", each.length(), Check.tapeLength(x));
            Check.same("nodes stay", 1, x.nodes());
            Check.same("properties stay", 0, x.properties());
            Check.badArgument("the place stays", () -> x.close());
        }
    }

    private static void edgesOfNames() {
        String[] right = {"!", "~", ".", "0", "a,b-c@0", LONGEST, "!~.0", "-"};
        TreePress x = new TreePress();
        for (int i = 0; i < right.length; i++) {
            Check.same("property " + right[i], i, Check.property(x, right[i], ""));
        }
        for (int i = 0; i < right.length; i++) {
            Check.same("open " + right[i], i + 1, Check.open(x, right[i]));
            Check.same("used up", 0, Check.tapeLength(x));
            for (int j = 0; j < right[i].length(); j++) {
                Check.same("its byte " + j, right[i].charAt(j), x.nodeName(i + 1, j));
                Check.same("a property's byte " + j, right[i].charAt(j), x.name(i, j));
            }
        }
    }

    private static void wrongCounts() {
        TreePress x = new TreePress();
        Check.type(x, "abc");
        int[] wrong = {-1, 0, 4, 5, 32, Integer.MIN_VALUE, Integer.MAX_VALUE};
        for (int k : wrong) {
            Check.badArgument("property(" + k + ")", () -> x.property(k));
        }
        Check.same("the tape stays", 3, Check.tapeLength(x));
        Check.same("property(2)", 0, x.property(2));
        Check.same("used up", 0, Check.tapeLength(x));
        Check.badArgument("an empty tape", () -> x.property(0));
        Check.type(x, LONGEST + "567");
        Check.badArgument("32 bytes", () -> x.property(32));
        Check.same("31 bytes", 1, x.property(31));
        Check.same("the rest is the value", 3, x.about(1, 2));
    }

    private static void propertiesOnlyBeforeNodes() {
        TreePress x = new TreePress();
        Check.open(x, "a");
        Check.property(x, "p", "v");
        x.close();
        Check.type(x, "pv");
        Check.badArgument("the place has a node", () -> x.property(1));
        Check.same("the tape stays", 2, Check.tapeLength(x));
        Check.same("properties stay", 1, x.properties());
        Check.same("it is a name", 2, x.open());
        Check.same("a node without nodes takes it", 1, Check.property(x, "p", "v"));
    }

    private static void valuesOfAnyBytes() {
        TreePress x = new TreePress();
        StringBuilder all = new StringBuilder();
        for (char c = 0; c < 256; c++) {
            all.append(c);
        }
        Check.same("property", 0, Check.property(x, "all", all.toString()));
        Check.same("length of its value", 256, x.about(0, 2));
        for (int i = 0; i < 256; i++) {
            Check.same("value byte " + i, i, x.value(0, i));
        }
        Check.same("one without a value", 1, Check.property(x, "all", ""));
        Check.same("its length", 0, x.about(1, 2));
    }

    private static void clear() {
        TreePress x = new TreePress();
        Check.property(x, "p", "v");
        Check.open(x, "a");
        Check.open(x, "b");
        int length = x.lay();
        Check.type(x, "left");
        x.clear();
        Check.same("nodes", 1, x.nodes());
        Check.same("properties", 0, x.properties());
        Check.same("properties of the first", 0, x.node(0, 1));
        Check.same("the first one", TreePress.NONE, x.node(0, 2));
        Check.badArgument("the place is the first node", () -> x.close());
        Check.same("what was laid stays", 0x0d, x.laid(1));
        Check.same("all of it", 0, x.laid(length - 1));
        Check.badIndex("and no more", () -> x.laid(length));
        Check.same("the tape stays", 4, Check.tapeLength(x));
        Check.same("property", 0, x.property(4));
        Check.same("open", 1, Check.open(x, "c"));
        Check.same("its name", 'c', x.nodeName(1, 0));
        x.clear();
        Check.same("lay", 72, x.lay());
    }

    private static void depthLimit() {
        TreePress x = new TreePress();
        for (int i = 1; i < 16; i++) {
            Check.same("open " + i, i, Check.open(x, "n"));
        }
        Check.type(x, "n");
        Check.tooMuch("the 17th within", () -> x.open());
        Check.same("the tape stays", 1, Check.tapeLength(x));
        Check.same("nodes stay", 16, x.nodes());
        Check.same("a property is still taken", 0, x.property(1));
        Check.same("of the last", 15, x.about(0, 0));
        Check.same("close", 14, x.close());
        Check.same("one more beside it", 16, Check.open(x, "n"));
    }

    private static void nodeLimit() {
        TreePress x = new TreePress();
        for (int i = 1; i < 128; i++) {
            x.feed(0x61616161, 0x61616161, 0x61616161, 0x61616161, 0x61616161);
            Check.same("open " + i, i, x.open());
            Check.same("close " + i, 0, x.close());
        }
        Check.type(x, "n");
        Check.tooMuch("the 129th", () -> x.open());
        Check.same("the tape stays", 1, Check.tapeLength(x));
        Check.same("nodes", 128, x.nodes());
        x.clear();
        Check.same("behind clear", 1, x.open());
    }

    /** As many properties as that come only by a row: they are too many for single calls. */
    private static void propertyLimit() {
        TreePress x = new TreePress();
        Made made = new Made().node("");
        for (int i = 0; i < 511; i++) {
            made.property(0, "");
        }
        Check.same("read", TreePress.NONE, Check.read(x, made.close().last().row("p\0")));
        Check.same("properties", 511, x.properties());
        Check.same("the 512th", 511, Check.property(x, "p", ""));
        Check.type(x, "p");
        Check.tooMuch("the 513th", () -> x.property(1));
        Check.same("the tape stays", 1, Check.tapeLength(x));
        Check.same("properties stay", 512, x.properties());
        Check.same("a node is still taken", 1, x.open());
    }

    /** A tree of one node and 402 properties that has room for 31 bytes. */
    private static TreePress almostFull() {
        TreePress x = new TreePress();
        Made made = new Made().node("");
        for (int i = 0; i < 400; i++) {
            made.property(0, "");
        }
        Check.same("read", TreePress.NONE, Check.read(x, made.close().last().row(LONGEST + "\0")));
        StringBuilder value = new StringBuilder();
        for (int i = 0; i < 1980; i++) {
            value.append('v');
        }
        Check.same("12400 and 1984", 400, Check.property(x, "long", value.toString()));
        Check.same("and 1969", 401, Check.property(x, "more", value.substring(15)));
        return x;
    }

    private static void textLimitOfProperties() {
        TreePress x = almostFull();
        Check.type(x, "p" + LONGEST);
        Check.tooMuch("one byte too many", () -> x.property(1));
        Check.same("the tape stays", 32, Check.tapeLength(x));
        x.end(31);
        Check.same("as many as there may be", 402, x.property(1));
        Check.type(x, "n");
        Check.tooMuch("a node more", () -> x.open());
        Check.tooMuch("a property more", () -> x.property(1));
        Check.same("the tape stays", 1, Check.tapeLength(x));
        Check.same("nodes stay", 1, x.nodes());
        Check.same("properties stay", 403, x.properties());
        x.clear();
        Check.same("behind clear", 1, x.open());
    }

    private static void textLimitOfNodes() {
        TreePress x = almostFull();
        Check.same("a property that leaves 28", 402, Check.property(x, "pqr", ""));
        Check.type(x, LONGEST.substring(2));
        Check.tooMuch("one byte too many", () -> x.open());
        Check.same("the tape stays", 29, Check.tapeLength(x));
        x.end(28);
        Check.same("as many as there may be", 1, x.open());
        Check.type(x, "n");
        Check.tooMuch("a node more", () -> x.open());
        Check.tooMuch("a property more", () -> x.property(1));
        Check.same("nodes stay", 2, x.nodes());
        Check.same("the place stays", 0, x.close());
    }

    private static void wrongArgumentsComeFirst() {
        TreePress x = new TreePress();
        for (int i = 1; i < 16; i++) {
            Check.open(x, "n");
        }
        Check.type(x, "a/");
        Check.badArgument("no name, and too deep", () -> x.open());
        x.end(1);
        Check.tooMuch("a name, too deep", () -> x.open());
    }
}
