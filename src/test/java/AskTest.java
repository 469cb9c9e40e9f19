/** Promises 11 to 17: nodes, properties, node, about, nodeName, name and value. */
public final class AskTest {
    private static final int NONE = TreePress.NONE;
    private static final int[] BEYOND = {-1, Integer.MIN_VALUE, Integer.MAX_VALUE};

    public static void main(String[] args) {
        counts();
        node();
        about();
        nodeName();
        nameAndValue();
        indexesComeFirst();
        Check.finish();
    }

    private static TreePress tree() {
        TreePress x = new TreePress();
        Check.property(x, "model", "board");
        Check.property(x, "z", "");
        Check.open(x, "cpus");
        Check.open(x, "cpu@0");
        Check.property(x, "reg", "\u0080\u00ff\0");
        x.close();
        x.close();
        Check.open(x, "memory");
        Check.property(x, "reg", "12");
        return x;
    }

    private static void counts() {
        TreePress x = new TreePress();
        Check.same("nodes", 1, x.nodes());
        Check.same("properties", 0, x.properties());
        Check.property(x, "p", "");
        Check.same("nodes", 1, x.nodes());
        Check.same("properties", 1, x.properties());
        Check.open(x, "n");
        Check.same("nodes", 2, x.nodes());
        Check.same("properties", 1, x.properties());
        x.close();
        Check.same("nodes behind close", 2, x.nodes());
        Check.type(x, "tape");
        x.nodes();
        x.properties();
        Check.same("the tape stays", 4, Check.tapeLength(x));
    }

    private static void node() {
        TreePress x = tree();
        int[][] due = {{NONE, 2, 0, 0}, {0, 0, NONE, 4}, {1, 1, 2, 5}, {0, 1, 3, 6}};
        Check.type(x, "tape");
        for (int i = 0; i < due.length; i++) {
            for (int what = 0; what < 4; what++) {
                Check.same("node(" + i + ", " + what + ")", due[i][what], x.node(i, what));
            }
            int at = i;
            Check.badArgument("node, 4", () -> x.node(at, 4));
            for (int what : BEYOND) {
                Check.badArgument("node, " + what, () -> x.node(at, what));
            }
        }
        Check.badIndex("node 4", () -> x.node(4, 0));
        for (int i : BEYOND) {
            Check.badIndex("node " + i, () -> x.node(i, 0));
        }
        Check.same("the tape stays", 4, Check.tapeLength(x));
    }

    private static void about() {
        TreePress x = tree();
        int[][] due = {{0, 5, 5}, {0, 1, 0}, {2, 3, 3}, {3, 3, 2}};
        Check.type(x, "tape");
        for (int i = 0; i < due.length; i++) {
            for (int what = 0; what < 3; what++) {
                Check.same("about(" + i + ", " + what + ")", due[i][what], x.about(i, what));
            }
            int at = i;
            Check.badArgument("about, 3", () -> x.about(at, 3));
            for (int what : BEYOND) {
                Check.badArgument("about, " + what, () -> x.about(at, what));
            }
        }
        Check.badIndex("property 4", () -> x.about(4, 0));
        for (int i : BEYOND) {
            Check.badIndex("property " + i, () -> x.about(i, 0));
        }
        Check.same("the tape stays", 4, Check.tapeLength(x));
        Check.badIndex("no property at all", () -> new TreePress().about(0, 0));
    }

    private static void nodeName() {
        TreePress x = tree();
        String[] due = {"", "cpus", "cpu@0", "memory"};
        for (int i = 0; i < due.length; i++) {
            int at = i;
            for (int j = 0; j < due[i].length(); j++) {
                Check.same("nodeName(" + i + ", " + j + ")", due[i].charAt(j), x.nodeName(i, j));
            }
            Check.badIndex("behind it", () -> x.nodeName(at, due[at].length()));
            for (int j : BEYOND) {
                Check.badIndex("byte " + j, () -> x.nodeName(at, j));
            }
        }
        Check.badIndex("node 4", () -> x.nodeName(4, 0));
        for (int i : BEYOND) {
            Check.badIndex("node " + i, () -> x.nodeName(i, 0));
        }
    }

    private static void nameAndValue() {
        TreePress x = tree();
        String[] names = {"model", "z", "reg", "reg"};
        String[] values = {"board", "", "\u0080\u00ff\0", "12"};
        for (int i = 0; i < names.length; i++) {
            int at = i;
            for (int j = 0; j < names[i].length(); j++) {
                Check.same("name(" + i + ", " + j + ")", names[i].charAt(j), x.name(i, j));
            }
            for (int j = 0; j < values[i].length(); j++) {
                Check.same("value(" + i + ", " + j + ")", values[i].charAt(j), x.value(i, j));
            }
            Check.badIndex("behind the name", () -> x.name(at, names[at].length()));
            Check.badIndex("behind the value", () -> x.value(at, values[at].length()));
            for (int j : BEYOND) {
                Check.badIndex("name, byte " + j, () -> x.name(at, j));
                Check.badIndex("value, byte " + j, () -> x.value(at, j));
            }
        }
        Check.badIndex("name of 4", () -> x.name(4, 0));
        Check.badIndex("value of 4", () -> x.value(4, 0));
        for (int i : BEYOND) {
            Check.badIndex("name of " + i, () -> x.name(i, 0));
            Check.badIndex("value of " + i, () -> x.value(i, 0));
        }
    }

    /** Where both are wrong, the exception that the document names first is thrown. */
    private static void indexesComeFirst() {
        TreePress x = tree();
        Check.badIndex("node(4, 4)", () -> x.node(4, 4));
        Check.badIndex("about(-1, -1)", () -> x.about(-1, -1));
    }
}
