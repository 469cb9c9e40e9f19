/** Promises 8 and 9: lay and laid. */
public final class LayTest {
    public static void main(String[] args) {
        firstNodeAlone();
        aWholeTree();
        namesButOnce();
        fillingUp();
        laidStaysUntilLaidAgain();
        laidAfterClearAndRead();
        biggest();
        Check.finish();
    }

    private static void firstNodeAlone() {
        TreePress x = new TreePress();
        Check.badIndex("nothing yet", () -> x.laid(0));
        byte[] due = {
            (byte) 0xd0, 0x0d, (byte) 0xfe, (byte) 0xed, 0, 0, 0, 72, 0, 0, 0, 56, 0, 0, 0, 72,
            0, 0, 0, 40, 0, 0, 0, 17, 0, 0, 0, 16, 0, 0, 0, 0, 0, 0, 0, 0, 0, 0, 0, 16,
            0, 0, 0, 0, 0, 0, 0, 0, 0, 0, 0, 0, 0, 0, 0, 0,
            0, 0, 0, 1, 0, 0, 0, 0, 0, 0, 0, 2, 0, 0, 0, 9};
        Check.same("the first node alone", due, Check.laid(x));
        Check.badIndex("below 0", () -> x.laid(-1));
        Check.badIndex("behind the last", () -> x.laid(72));
        Check.badIndex("the highest", () -> x.laid(Integer.MAX_VALUE));
        Check.badIndex("the lowest", () -> x.laid(Integer.MIN_VALUE));
    }

    private static void aWholeTree() {
        TreePress x = new TreePress();
        Check.property(x, "model", "board\0");
        Check.property(x, "size", "\u00ff\u0080\0\1");
        Check.open(x, "a");
        Check.property(x, "size", "");
        Check.open(x, "bcd");
        Check.open(x, "efgh");
        Check.property(x, "reg", "12345678");
        x.close();
        x.close();
        Check.open(x, "i");
        x.close();
        x.close();
        Check.open(x, "a");
        Check.property(x, "model", "1");
        Check.type(x, "tape");
        byte[] due = new Made()
                .node("").property(0, "board\0").property(6, "\u00ff\u0080\0\1")
                .node("a").property(6, "")
                .node("bcd").node("efgh").property(11, "12345678").close().close()
                .node("i").close().close()
                .node("a").property(0, "1").close().close().last()
                .row("model\0size\0reg\0");
        Check.same("a whole tree", due, Check.laid(x));
        Check.same("the tape stays", 4, Check.tapeLength(x));
        Check.same("the place stays", 0, x.close());
        Check.same("laid twice", due, Check.laid(x));
    }

    private static void namesButOnce() {
        TreePress x = new TreePress();
        String[] names = {"reg", "eg", "reg", "re", "regs", "eg", "r", "regs", "reg", "g"};
        int[] offsets = {0, 4, 0, 7, 10, 4, 15, 10, 0, 17};
        Made made = new Made().node("");
        for (int i = 0; i < names.length; i++) {
            Check.property(x, names[i], "v" + i);
            made.property(offsets[i], "v" + i);
        }
        byte[] due = made.close().last().row("reg\0eg\0re\0regs\0r\0g\0");
        Check.same("names but once", due, Check.laid(x));
    }

    private static void fillingUp() {
        String text = "abcdefghijklmnopqrstuvwxyzABCDE";
        for (int n = 1; n <= 31; n++) {
            TreePress x = new TreePress();
            String part = text.substring(0, n);
            Check.open(x, part);
            Check.property(x, part, part);
            byte[] due = new Made().node("").node(part).property(0, part).close().close().last()
                    .row(part + "\0");
            Check.same("filled up " + n, due, Check.laid(x));
        }
    }

    private static void laidStaysUntilLaidAgain() {
        TreePress x = new TreePress();
        Check.open(x, "node");
        Check.same("lay", 88, x.lay());
        x.close();
        Check.open(x, "other");
        Check.same("the old length", 88, x.laid(7));
        Check.badIndex("the old end", () -> x.laid(88));
        Check.same("lay again", 104, x.lay());
        Check.same("the new length", 104, x.laid(7));
        x.clear();
        Check.same("lay less", 72, x.lay());
        Check.badIndex("the shorter end", () -> x.laid(72));
        Check.same("a failed read", 3, Check.read(x, new byte[3]));
        Check.same("what was laid stays", 72, x.laid(7));
    }

    /** Nothing of an earlier tree is left in a later one. */
    private static void laidAfterClearAndRead() {
        TreePress x = new TreePress();
        byte[] due = new Made().node("").property(0, "1").node("n").property(2, "22")
                .property(0, "").close().close().last().row("q\0pp\0");
        for (int round = 0; round < 3; round++) {
            Check.property(x, "before", "other");
            Check.property(x, "p", "");
            Check.open(x, "node");
            x.clear();
            Check.property(x, "q", "1");
            Check.open(x, "n");
            Check.property(x, "pp", "22");
            Check.property(x, "q", "");
            Check.same("lay", due.length, x.lay());
            for (int i = 56; i < due.length; i++) {
                Check.same("byte " + i, due[i] & 255, x.laid(i));
            }
            Check.same("read", TreePress.NONE, Check.read(x, due));
            Check.same("lay what was read", due.length, x.lay());
            x.clear();
        }
    }

    /** As many nodes and properties as there may be; looked at here and there, as calls are few. */
    private static void biggest() {
        Made made = new Made().node("");
        for (int i = 0; i < 385; i++) {
            made.property(0, i % 2 == 0 ? "" : "v");
        }
        for (int i = 1; i < 128; i++) {
            made.node("n").property(2, "").close();
        }
        byte[] due = made.close().last().row("a\0b\0");
        TreePress x = new TreePress();
        Check.same("read", TreePress.NONE, Check.read(x, due));
        Check.same("nodes", 128, x.nodes());
        Check.same("properties", 512, x.properties());
        Check.same("lay", due.length, x.lay());
        for (int i = 7; i < due.length; i += 173) {
            Check.same("byte " + i, due[i] & 255, x.laid(i));
        }
        for (int i = due.length - 8; i < due.length; i++) {
            Check.same("byte " + i, due[i] & 255, x.laid(i));
        }
    }
}
