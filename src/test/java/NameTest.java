/** Terms, NAME, VALUE and "names may be alike": each sentence, in every call that it binds. */
public final class NameTest {
    private static final int NONE = TreePress.NONE;
    private static final int STRUCTURE = 56;
    private static final int NAME_OF_SECOND = STRUCTURE + 12;
    private static final int NAME_OF_PROPERTY = STRUCTURE + 16;

    public static void main(String[] args) {
        for (int n = 0; n <= 34; n++) {
            lengthOfNodeName(n);
            lengthOfPropertyName(n);
            lengthInPath(n);
        }
        for (int b = 0; b < 256; b++) {
            byteOfNodeName(b);
            byteOfPropertyName(b);
            byteInPath(b);
            byteSought(b);
            byteOfReadNodeName(b);
            byteOfReadPropertyName(b);
            byteOfValue(b);
        }
        noValue();
        nodesAlike();
        propertiesAlike();
        nodesAndPropertiesAlike();
        Check.finish();
    }

    private static boolean mayStand(int b) {
        return b >= 33 && b <= 126 && b != 47;
    }

    private static String text(int length) {
        return "abcdefghijklmnopqrstuvwxyz0123456789".substring(0, length);
    }

    /** The byte alone, at the beginning, within and at the end. */
    private static String[] around(int b) {
        char c = (char) b;
        return new String[] {"" + c, c + "yz", "x" + c + "z", "xy" + c};
    }

    private static void opens(String what, boolean due, String name) {
        TreePress x = new TreePress();
        Check.type(x, name);
        if (due) {
            Check.same(what, 1, x.open());
            Check.same(what + ": its length", name.length(), x.node(1, 3));
        } else {
            Check.badArgument(what, () -> x.open());
        }
    }

    private static void takes(String what, boolean due, String name) {
        TreePress x = new TreePress();
        Check.type(x, name + "value");
        if (due) {
            Check.same(what, 0, x.property(name.length()));
            Check.same(what + ": its length", name.length(), x.about(0, 1));
            Check.same(what + ": its value", 5, x.about(0, 2));
        } else {
            Check.badArgument(what, () -> x.property(name.length()));
        }
    }

    private static int readNode(String name) {
        return Check.read(new TreePress(),
                new Made().node("").node(name).close().close().last().row());
    }

    private static int readProperty(String names) {
        return Check.read(new TreePress(),
                new Made().node("").property(0, "v").close().last().row(names));
    }

    private static void lengthOfNodeName(int n) {
        boolean due = n >= 1 && n <= 31;
        opens("open with " + n + " bytes", due, text(n));
        int place = n == 0 ? NAME_OF_SECOND : NAME_OF_SECOND + 31;
        Check.same("read a node's name of " + n, due ? NONE : place, readNode(text(n)));
    }

    private static void lengthOfPropertyName(int n) {
        boolean due = n >= 1 && n <= 31;
        takes("property with " + n + " bytes", due, text(n));
        Check.same("read a property's name of " + n, due ? NONE : NAME_OF_PROPERTY,
                readProperty(text(n) + "\0"));
    }

    private static void lengthInPath(int n) {
        TreePress x = new TreePress();
        Check.open(x, text(31));
        int due = n == 0 ? 0 : n == 31 ? 1 : NONE;
        Check.same("find a name of " + n, due, Check.find(x, "/" + text(n)));
        TreePress y = new TreePress();
        Check.property(y, text(31), "");
        Check.same("seek a name of " + n, n == 31 ? 0 : NONE, Check.seek(y, 0, text(n)));
    }

    private static void byteOfNodeName(int b) {
        for (String name : around(b)) {
            opens("open with byte " + b, mayStand(b), name);
        }
    }

    private static void byteOfPropertyName(int b) {
        for (String name : around(b)) {
            takes("property with byte " + b, mayStand(b), name);
        }
    }

    private static void byteInPath(int b) {
        TreePress x = new TreePress();
        int due = NONE;
        if (mayStand(b)) {
            due = Check.open(x, "x" + (char) b);
        } else {
            Check.open(x, "x");
        }
        Check.same("find with byte " + b, due, Check.find(x, "/x" + (char) b));
        Check.same("find with byte " + b + " for 47", b == 47 ? 1 : NONE,
                Check.find(x, (char) b + "x"));
    }

    private static void byteSought(int b) {
        TreePress x = new TreePress();
        Check.property(x, "x", "");
        int due = mayStand(b) ? Check.property(x, "x" + (char) b, "") : NONE;
        Check.same("seek with byte " + b, due, Check.seek(x, 0, "x" + (char) b));
    }

    private static void byteOfReadNodeName(int b) {
        String[] names = around(b);
        int[] places = {0, 0, 1, 2};
        for (int i = 0; i < names.length; i++) {
            int due = mayStand(b) ? NONE : NAME_OF_SECOND + places[i];
            if (b == 0 && i == 2) {
                // The byte 0 ends the name, and what is behind it should fill up.
                due = NAME_OF_SECOND + 2;
            } else if (b == 0 && i == 3) {
                due = NONE;
            }
            Check.same("read a node's name, byte " + b + ", form " + i, due, readNode(names[i]));
        }
    }

    private static void byteOfReadPropertyName(int b) {
        String[] names = around(b);
        for (int i = 0; i < names.length; i++) {
            boolean due = mayStand(b) || b == 0 && i > 1;
            Check.same("read a property's name, byte " + b + ", form " + i,
                    due ? NONE : NAME_OF_PROPERTY, readProperty(names[i] + "\0"));
        }
    }

    private static void byteOfValue(int b) {
        String value = "" + (char) b;
        TreePress x = new TreePress();
        Check.same("property, value " + b, 0, Check.property(x, "p", value));
        Check.same("its value", b, x.value(0, 0));
        TreePress y = new TreePress();
        Check.same("read, value " + b, NONE, Check.read(y, new Made().node("")
                .property(0, value).close().last().row("p\0")));
        Check.same("its value", b, y.value(0, 0));
        Check.same("what fills it up is none of it", 1, y.about(0, 2));
    }

    private static void noValue() {
        TreePress x = new TreePress();
        Check.same("property", 0, Check.property(x, "p", ""));
        Check.same("no byte of it", 0, x.about(0, 2));
        Check.badIndex("its byte 0", () -> x.value(0, 0));
        TreePress y = new TreePress();
        Check.same("read", NONE, Check.read(y, new Made().node("").property(0, "").close()
                .last().row("p\0")));
        Check.same("no byte of it", 0, y.about(0, 2));
        Check.badIndex("its byte 0", () -> y.value(0, 0));
    }

    private static void nodesAlike() {
        TreePress x = new TreePress();
        Check.same("a", 1, Check.open(x, "a"));
        Check.same("a in a", 2, Check.open(x, "a"));
        x.close();
        x.close();
        Check.same("a beside a", 3, Check.open(x, "a"));
        byte[] row = Check.laid(x);
        Check.same("read", NONE, Check.read(x, row));
        Check.same("nodes", 4, x.nodes());
        Check.same("laid again", row, Check.laid(x));
    }

    private static void propertiesAlike() {
        TreePress x = new TreePress();
        Check.same("p", 0, Check.property(x, "p", "1"));
        Check.same("p again", 1, Check.property(x, "p", "2"));
        Check.same("p, and alike its value", 2, Check.property(x, "p", "2"));
        Check.open(x, "n");
        Check.same("p of another node", 3, Check.property(x, "p", "3"));
        byte[] row = Check.laid(x);
        Check.same("read", NONE, Check.read(x, row));
        Check.same("properties", 4, x.properties());
        Check.same("properties of the first", 3, x.node(0, 1));
        Check.same("laid again", row, Check.laid(x));
    }

    private static void nodesAndPropertiesAlike() {
        TreePress x = new TreePress();
        Check.same("property a", 0, Check.property(x, "a", ""));
        Check.same("node a", 1, Check.open(x, "a"));
        Check.same("property a of a", 1, Check.property(x, "a", ""));
        Check.same("find", 1, Check.find(x, "/a"));
        Check.same("no node in it", NONE, Check.find(x, "/a/a"));
        Check.same("seek", 0, Check.seek(x, 0, "a"));
        Check.same("seek", 1, Check.seek(x, 1, "a"));
        byte[] row = Check.laid(x);
        Check.same("read", NONE, Check.read(x, row));
        Check.same("laid again", row, Check.laid(x));
    }
}
