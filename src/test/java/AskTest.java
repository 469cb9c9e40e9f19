/** Promises 11 to 17: nodes, properties, node, about, nodeName, name and value. */
public final class AskTest {
    private static final int NONE = TreePress.NONE;
    private static final int[] BEYOND = {-1, Integer.MIN_VALUE, Integer.MAX_VALUE};

    public static void main(String[] args) {
        counts();
        node();
        about();
        nodeName();
        nameAndValue();
        firstNodeIsInNone();
        nodeWithoutPropertyHasNoFirst();
        noSuchNode();
        noSuchProperty();
        noSuchByte();
        anotherWhat();
        indexesComeFirst();
        Check.finish();
    }

    private static TreePress tree() {
        TreePress x = new TreePress();
        Check.property(x, "model", "board");
        Check.property(x, "z", "");
        Check.open(x, "cpus");
        Check.open(x, "cpu@0");
        Check.property(x, "reg", "\u0080\u00ff\0");
        x.close();
        x.close();
        Check.open(x, "memory");
        Check.property(x, "reg", "12");
        return x;
    }

    private static void counts() {
        TreePress x = new TreePress();
        Check.same("nodes", 1, x.nodes());
        Check.same("properties", 0, x.properties());
        Check.property(x, "p", "");
        Check.same("nodes", 1, x.nodes());
        Check.same("properties", 1, x.properties());
        Check.open(x, "n");
        Check.same("nodes", 2, x.nodes());
        Check.same("properties", 1, x.properties());
        x.close();
        Check.same("nodes behind close", 2, x.nodes());
        Check.type(x, "tape");
        x.nodes();
        x.properties();
        Check.same("the tape stays", 4, Check.tapeLength(x));
    }

    private static void node() {
        TreePress x = tree();
        int[][] due = {{NONE, 2, 0, 0}, {0, 0, NONE, 4}, {1, 1, 2, 5}, {0, 1, 3, 6}};
        Check.type(x, "tape");
        for (int i = 0; i < due.length; i++) {
            for (int what = 0; what < 4; what++) {
                Check.same("node(" + i + ", " + what + ")", due[i][what], x.node(i, what));
            }
            int at = i;
            Check.badArgument("node, 4", () -> x.node(at, 4));
            for (int what : BEYOND) {
                Check.badArgument("node, " + what, () -> x.node(at, what));
            }
        }
        Check.badIndex("node 4", () -> x.node(4, 0));
        for (int i : BEYOND) {
            Check.badIndex("node " + i, () -> x.node(i, 0));
        }
        Check.same("the tape stays", 4, Check.tapeLength(x));
    }

    private static void about() {
        TreePress x = tree();
        int[][] due = {{0, 5, 5}, {0, 1, 0}, {2, 3, 3}, {3, 3, 2}};
        Check.type(x, "tape");
        for (int i = 0; i < due.length; i++) {
            for (int what = 0; what < 3; what++) {
                Check.same("about(" + i + ", " + what + ")", due[i][what], x.about(i, what));
            }
            int at = i;
            Check.badArgument("about, 3", () -> x.about(at, 3));
            for (int what : BEYOND) {
                Check.badArgument("about, " + what, () -> x.about(at, what));
            }
        }
        Check.badIndex("property 4", () -> x.about(4, 0));
        for (int i : BEYOND) {
            Check.badIndex("property " + i, () -> x.about(i, 0));
        }
        Check.same("the tape stays", 4, Check.tapeLength(x));
        Check.badIndex("no property at all", () -> new TreePress().about(0, 0));
    }

    private static void nodeName() {
        TreePress x = tree();
        String[] due = {"", "cpus", "cpu@0", "memory"};
        for (int i = 0; i < due.length; i++) {
            int at = i;
            for (int j = 0; j < due[i].length(); j++) {
                Check.same("nodeName(" + i + ", " + j + ")", due[i].charAt(j), x.nodeName(i, j));
            }
            Check.badIndex("behind it", () -> x.nodeName(at, due[at].length()));
            for (int j : BEYOND) {
                Check.badIndex("byte " + j, () -> x.nodeName(at, j));
            }
        }
        Check.badIndex("node 4", () -> x.nodeName(4, 0));
        for (int i : BEYOND) {
            Check.badIndex("node " + i, () -> x.nodeName(i, 0));
        }
    }

    private static void nameAndValue() {
        TreePress x = tree();
        String[] names = {"model", "z", "reg", "reg"};
        String[] values = {"board", "", "\u0080\u00ff\0", "12"};
        for (int i = 0; i < names.length; i++) {
            int at = i;
            for (int j = 0; j < names[i].length(); j++) {
                Check.same("name(" + i + ", " + j + ")", names[i].charAt(j), x.name(i, j));
            }
            for (int j = 0; j < values[i].length(); j++) {
                Check.same("value(" + i + ", " + j + ")", values[i].charAt(j), x.value(i, j));
            }
            Check.badIndex("behind the name", () -> x.name(at, names[at].length()));
            Check.badIndex("behind the value", () -> x.value(at, values[at].length()));
            for (int j : BEYOND) {
                Check.badIndex("name, byte " + j, () -> x.name(at, j));
                Check.badIndex("value, byte " + j, () -> x.value(at, j));
            }
        }
        Check.badIndex("name of 4", () -> x.name(4, 0));
        Check.badIndex("value of 4", () -> x.value(4, 0));
        for (int i : BEYOND) {
            Check.badIndex("name of " + i, () -> x.name(i, 0));
            Check.badIndex("value of " + i, () -> x.value(i, 0));
        }
    }

    private static void firstNodeIsInNone() {
        TreePress x = new TreePress();
        Check.same("of a new object", NONE, x.node(0, 0));
        Check.same("of a tree", NONE, tree().node(0, 0));
        Check.open(x, "a");
        Check.same("a node in it is in 0", 0, x.node(1, 0));
        x.clear();
        Check.same("behind clear", NONE, x.node(0, 0));
        Check.same("read", NONE, Check.read(x, new Made().node("").node("a").close().close()
                .last().row()));
        Check.same("behind read", NONE, x.node(0, 0));
        Check.same("a node in it is in 0", 0, x.node(1, 0));
    }

    private static void nodeWithoutPropertyHasNoFirst() {
        TreePress x = new TreePress();
        Check.same("of a new object", NONE, x.node(0, 2));
        Check.open(x, "a");
        Check.property(x, "p", "");
        Check.open(x, "b");
        Check.same("before one that has", NONE, x.node(0, 2));
        Check.same("one that has", 0, x.node(1, 2));
        Check.same("behind one that has", NONE, x.node(2, 2));
        Check.same("how many it has", 0, x.node(2, 1));
        Check.property(x, "p", "");
        Check.same("one that has now", 1, x.node(2, 2));
    }

    private static void noSuchNode() {
        TreePress x = new TreePress();
        Check.same("node 0 is always there", 0, x.node(0, 1));
        Check.badIndex("node 1 of a new object", () -> x.node(1, 0));
        Check.badIndex("its name", () -> x.nodeName(1, 0));
        Check.open(x, "a");
        Check.same("node 1", 1, x.node(1, 3));
        Check.badIndex("node 2", () -> x.node(2, 0));
        x.clear();
        Check.badIndex("node 1 behind clear", () -> x.node(1, 0));
        Check.badIndex("its name behind clear", () -> x.nodeName(1, 0));
    }

    private static void noSuchProperty() {
        TreePress x = new TreePress();
        Check.badIndex("property 0 of a new object", () -> x.about(0, 0));
        Check.badIndex("its name", () -> x.name(0, 0));
        Check.badIndex("its value", () -> x.value(0, 0));
        Check.property(x, "p", "v");
        Check.same("property 0", 1, x.about(0, 2));
        Check.badIndex("property 1", () -> x.about(1, 0));
        x.clear();
        Check.badIndex("property 0 behind clear", () -> x.about(0, 0));
        Check.badIndex("its name behind clear", () -> x.name(0, 0));
        Check.badIndex("its value behind clear", () -> x.value(0, 0));
    }

    /** The bytes of all names and values may lie side by side: none is to be seen from another. */
    private static void noSuchByte() {
        TreePress x = new TreePress();
        Check.property(x, "ab", "cd");
        Check.property(x, "ef", "");
        Check.open(x, "gh");
        Check.property(x, "ij", "kl");
        for (int j : new int[] {2, 3, -1}) {
            Check.badIndex("nodeName, byte " + j, () -> x.nodeName(1, j));
            Check.badIndex("name, byte " + j, () -> x.name(0, j));
            Check.badIndex("value, byte " + j, () -> x.value(0, j));
        }
        Check.badIndex("a value of no bytes", () -> x.value(1, 0));
        Check.badIndex("the first node's name", () -> x.nodeName(0, 0));
    }

    private static void anotherWhat() {
        TreePress x = tree();
        for (int what : new int[] {4, 5, -1, -2, Integer.MIN_VALUE, Integer.MAX_VALUE}) {
            Check.badArgument("node(0, " + what + ")", () -> x.node(0, what));
            Check.badArgument("about(0, " + what + ")", () -> x.about(0, what));
        }
        Check.badArgument("about(0, 3)", () -> x.about(0, 3));
        Check.same("node(1, 3)", 4, x.node(1, 3));
    }

    /** Where both are wrong, the exception that the document names first is thrown. */
    private static void indexesComeFirst() {
        TreePress x = tree();
        Check.badIndex("node(4, 4)", () -> x.node(4, 4));
        Check.badIndex("about(-1, -1)", () -> x.about(-1, -1));
    }
}
