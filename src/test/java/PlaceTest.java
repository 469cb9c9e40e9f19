/** Terms, THE PLACE, and promise 7: where more is put, behind each call that moves it. */
public final class PlaceTest {
    private static final int NONE = TreePress.NONE;

    public static void main(String[] args) {
        atFirst();
        behindOpen();
        behindClose();
        closeOfTheFirstNode();
        behindClear();
        behindReadOfATree();
        behindReadThatFails();
        behindReadOfNothing();
        otherCallsLeaveIt();
        treeStaysWhenARowFails();
        Check.finish();
    }

    private static TreePress threeWithin() {
        TreePress x = new TreePress();
        Check.open(x, "a");
        Check.property(x, "p", "v");
        Check.open(x, "b");
        return x;
    }

    private static byte[] rowOfThree() {
        return new Made().node("").property(0, "w").node("c").node("d").close().close().close()
                .last().row("q\0");
    }

    /** The place is told by where the next node comes. */
    private static void placeIs(String what, int due, TreePress x) {
        int made = Check.open(x, "new");
        Check.same(what, due, x.node(made, 0));
        Check.same(what + ": and behind close", due, x.close());
    }

    private static void atFirst() {
        TreePress x = new TreePress();
        Check.badArgument("close", () -> x.close());
        Check.same("property", 0, Check.property(x, "p", ""));
        Check.same("of the first node", 0, x.about(0, 0));
        placeIs("at first", 0, x);
    }

    private static void behindOpen() {
        TreePress x = threeWithin();
        Check.same("property", 1, Check.property(x, "p", ""));
        Check.same("of the last node", 2, x.about(1, 0));
        placeIs("behind open", 2, x);
    }

    private static void behindClose() {
        TreePress x = threeWithin();
        Check.same("close", 1, x.close());
        placeIs("behind close", 1, x);
        Check.same("close", 0, x.close());
        placeIs("behind two", 0, x);
    }

    private static void closeOfTheFirstNode() {
        TreePress x = threeWithin();
        x.close();
        x.close();
        for (int i = 0; i < 3; i++) {
            Check.badArgument("close the first node", () -> x.close());
        }
        placeIs("it stays", 0, x);
        Check.same("nodes", 4, x.nodes());
    }

    private static void behindClear() {
        TreePress x = threeWithin();
        x.clear();
        Check.badArgument("close", () -> x.close());
        Check.same("property", 0, Check.property(x, "p", ""));
        placeIs("behind clear", 0, x);
    }

    private static void behindReadOfATree() {
        TreePress x = threeWithin();
        Check.same("read", NONE, Check.read(x, rowOfThree()));
        Check.badArgument("close", () -> x.close());
        placeIs("behind read", 0, x);
        Check.type(x, "p");
        Check.badArgument("the first node has nodes", () -> x.property(1));
        TreePress y = threeWithin();
        Check.same("read", NONE, Check.read(y, new Made().node("").property(0, "w").close().last()
                .row("q\0")));
        Check.same("property", 1, Check.property(y, "p", ""));
        Check.same("of the first node", 0, y.about(1, 0));
    }

    /** "Behind read()" is said of each read(); that the tree stays says nothing of the place. */
    private static void behindReadThatFails() {
        TreePress x = threeWithin();
        Check.same("read", 0, Check.read(x, new byte[80]));
        Check.badArgument("close", () -> x.close());
        placeIs("behind read", 0, x);
        TreePress y = threeWithin();
        byte[] row = rowOfThree();
        row[55] = 1;
        Check.same("read", 55, Check.read(y, row));
        placeIs("behind read", 0, y);
        TreePress z = threeWithin();
        Check.same("read", 84, Check.read(z, new Made().node("").node("c").node("d").close()
                .number(8).row()));
        placeIs("behind read", 0, z);
    }

    private static void behindReadOfNothing() {
        TreePress x = threeWithin();
        Check.same("read", 0, x.read());
        Check.same("nodes", 3, x.nodes());
        placeIs("behind read", 0, x);
    }

    private static void otherCallsLeaveIt() {
        TreePress x = threeWithin();
        Check.find(x, "/a");
        Check.seek(x, 0, "p");
        x.lay();
        x.laid(0);
        x.nodes();
        x.properties();
        x.node(0, 0);
        x.about(0, 0);
        x.nodeName(1, 0);
        x.name(0, 0);
        x.value(0, 0);
        Check.property(x, "p", "");
        placeIs("behind all others", 2, x);
    }

    private static void staysAt(String what, TreePress x, byte[] row, int step) {
        byte[] before = Check.laid(x);
        for (int at = 0; at < row.length; at += step) {
            byte[] wrong = row.clone();
            wrong[at] ^= (byte) 0x80;
            Check.isTrue(what + ": byte " + at + " fails", Check.read(x, wrong) != NONE);
        }
        Check.same(what, before, Check.laid(x));
    }

    private static void treeStaysWhenARowFails() {
        staysAt("a tree of calls", threeWithin(), rowOfThree(), 7);
        TreePress x = threeWithin();
        Check.same("read", NONE, Check.read(x, rowOfThree()));
        staysAt("a tree that was read", x, rowOfThree(), 7);
        Check.same("read once more", NONE, Check.read(x, rowOfThree()));
        staysAt("a tree that was read over another", x, rowOfThree(), 11);
        x.clear();
        staysAt("the first node alone", x, rowOfThree(), 11);
    }
}
