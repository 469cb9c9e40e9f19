/** Promises 8 and 9: lay and laid. */
public final class LayTest {
    public static void main(String[] args) {
        firstNodeAlone();
        numbersOfTheHead();
        partsOfTheStructure();
        namesInTheOrderInWhichTheyComeFirst();
        layingChangesNothing();
        aWholeTree();
        namesButOnce();
        fillingUp();
        laidStaysUntilLaidAgain();
        laidAfterClearAndRead();
        biggest();
        Check.finish();
    }

    private static void firstNodeAlone() {
        TreePress x = new TreePress();
        Check.badIndex("nothing yet", () -> x.laid(0));
        byte[] due = {
            (byte) 0xd0, 0x0d, (byte) 0xfe, (byte) 0xed, 0, 0, 0, 72, 0, 0, 0, 56, 0, 0, 0, 72,
            0, 0, 0, 40, 0, 0, 0, 17, 0, 0, 0, 16, 0, 0, 0, 0, 0, 0, 0, 0, 0, 0, 0, 16,
            0, 0, 0, 0, 0, 0, 0, 0, 0, 0, 0, 0, 0, 0, 0, 0,
            0, 0, 0, 1, 0, 0, 0, 0, 0, 0, 0, 2, 0, 0, 0, 9};
        Check.same("the first node alone", due, Check.laid(x));
        Check.badIndex("below 0", () -> x.laid(-1));
        Check.badIndex("behind the last", () -> x.laid(72));
        Check.badIndex("the highest", () -> x.laid(Integer.MAX_VALUE));
        Check.badIndex("the lowest", () -> x.laid(Integer.MIN_VALUE));
    }

    private static int number(TreePress x, int at) {
        return x.laid(at) << 24 | x.laid(at + 1) << 16 | x.laid(at + 2) << 8 | x.laid(at + 3);
    }

    /** The structure has 8 + 16 + 12 + 300 + 12 bytes, the names have 9. */
    private static void numbersOfTheHead() {
        TreePress x = new TreePress();
        Check.property(x, "abc", "12");
        Check.open(x, "longer");
        Check.property(x, "defg", "v".repeat(287));
        Check.same("lay", 56 + 348 + 9, x.lay());
        Check.same("3490578157", (int) 3490578157L, number(x, 0));
        Check.same("how many bytes in all", 413, number(x, 4));
        Check.same("56", 56, number(x, 8));
        Check.same("where its names begin", 56 + 348, number(x, 12));
        Check.same("40", 40, number(x, 16));
        Check.same("17", 17, number(x, 20));
        Check.same("16", 16, number(x, 24));
        Check.same("0", 0, number(x, 28));
        Check.same("how many bytes the names have", 9, number(x, 32));
        Check.same("how many the structure has", 348, number(x, 36));
        for (int i = 40; i < 56; i++) {
            Check.same("a byte 0 at " + i, 0, x.laid(i));
        }
        Check.same("the structure begins", 1, number(x, 56));
        Check.same("the structure ends", 9, number(x, 400));
        Check.same("the names begin", 'a', x.laid(404));
        Check.same("the names end", 0, x.laid(412));
    }

    private static void partsOfTheStructure() {
        TreePress x = new TreePress();
        Check.property(x, "p", "12345");
        Check.open(x, "abcd");
        Check.property(x, "q", "");
        x.lay();
        int[] due = {1, 0, 3, 5, 0, 0x31323334, 0x35000000, 1, 0x61626364, 0, 3, 0, 2, 2, 2, 9,
            0x70007100};
        for (int i = 0; i < due.length; i++) {
            Check.same("number " + i + " of the structure", due[i], number(x, 56 + 4 * i));
        }
    }

    private static void namesInTheOrderInWhichTheyComeFirst() {
        TreePress x = new TreePress();
        String[] names = {"z", "a", "z", "m", "a", "b"};
        int[] offsets = {0, 2, 0, 4, 2, 6};
        Check.open(x, "node");
        for (String name : names) {
            Check.property(x, name, "");
        }
        Check.open(x, "inner");
        Check.property(x, "m", "");
        int length = x.lay();
        for (int i = 0; i < names.length; i++) {
            Check.same("where " + names[i] + " begins", offsets[i], number(x, 84 + 12 * i));
        }
        String due = "z\0a\0m\0b\0";
        for (int i = 0; i < due.length(); i++) {
            Check.same("byte " + i + " of the names", due.charAt(i), x.laid(length - 8 + i));
        }
        Check.same("how many bytes they have", due.length(), number(x, 32));
    }

    private static void layingChangesNothing() {
        TreePress x = new TreePress();
        Check.property(x, "p", "v");
        Check.open(x, "a");
        Check.open(x, "b");
        Check.type(x, "tape");
        int length = x.lay();
        Check.same("laid again", length, x.lay());
        Check.same("nodes", 3, x.nodes());
        Check.same("properties", 1, x.properties());
        Check.same("the tape", 4, Check.tapeLength(x));
        Check.same("the place", 1, x.close());
    }

    private static void aWholeTree() {
        TreePress x = new TreePress();
        Check.property(x, "model", "board\0");
        Check.property(x, "size", "\u00ff\u0080\0\1");
        Check.open(x, "a");
        Check.property(x, "size", "");
        Check.open(x, "bcd");
        Check.open(x, "efgh");
        Check.property(x, "reg", "12345678");
        x.close();
        x.close();
        Check.open(x, "i");
        x.close();
        x.close();
        Check.open(x, "a");
        Check.property(x, "model", "1");
        Check.type(x, "tape");
        byte[] due = new Made()
                .node("").property(0, "board\0").property(6, "\u00ff\u0080\0\1")
                .node("a").property(6, "")
                .node("bcd").node("efgh").property(11, "12345678").close().close()
                .node("i").close().close()
                .node("a").property(0, "1").close().close().last()
                .row("model\0size\0reg\0");
        Check.same("a whole tree", due, Check.laid(x));
        Check.same("the tape stays", 4, Check.tapeLength(x));
        Check.same("the place stays", 0, x.close());
        Check.same("laid twice", due, Check.laid(x));
    }

    private static void namesButOnce() {
        TreePress x = new TreePress();
        String[] names = {"reg", "eg", "reg", "re", "regs", "eg", "r", "regs", "reg", "g"};
        int[] offsets = {0, 4, 0, 7, 10, 4, 15, 10, 0, 17};
        Made made = new Made().node("");
        for (int i = 0; i < names.length; i++) {
            Check.property(x, names[i], "v" + i);
            made.property(offsets[i], "v" + i);
        }
        byte[] due = made.close().last().row("reg\0eg\0re\0regs\0r\0g\0");
        Check.same("names but once", due, Check.laid(x));
    }

    private static void fillingUp() {
        String text = "abcdefghijklmnopqrstuvwxyzABCDE";
        for (int n = 1; n <= 31; n++) {
            TreePress x = new TreePress();
            String part = text.substring(0, n);
            Check.open(x, part);
            Check.property(x, part, part);
            byte[] due = new Made().node("").node(part).property(0, part).close().close().last()
                    .row(part + "\0");
            Check.same("filled up " + n, due, Check.laid(x));
        }
    }

    private static void laidStaysUntilLaidAgain() {
        TreePress x = new TreePress();
        Check.open(x, "node");
        Check.same("lay", 88, x.lay());
        x.close();
        Check.open(x, "other");
        Check.same("the old length", 88, x.laid(7));
        Check.badIndex("the old end", () -> x.laid(88));
        Check.same("lay again", 104, x.lay());
        Check.same("the new length", 104, x.laid(7));
        x.clear();
        Check.same("lay less", 72, x.lay());
        Check.badIndex("the shorter end", () -> x.laid(72));
        Check.same("a failed read", 3, Check.read(x, new byte[3]));
        Check.same("what was laid stays", 72, x.laid(7));
    }

    /** Nothing of an earlier tree is left in a later one. */
    private static void laidAfterClearAndRead() {
        TreePress x = new TreePress();
        byte[] due = new Made().node("").property(0, "1").node("n").property(2, "22")
                .property(0, "").close().close().last().row("q\0pp\0");
        for (int round = 0; round < 3; round++) {
            Check.property(x, "before", "other");
            Check.property(x, "p", "");
            Check.open(x, "node");
            x.clear();
            Check.property(x, "q", "1");
            Check.open(x, "n");
            Check.property(x, "pp", "22");
            Check.property(x, "q", "");
            Check.same("lay", due.length, x.lay());
            for (int i = 56; i < due.length; i++) {
                Check.same("byte " + i, due[i] & 255, x.laid(i));
            }
            Check.same("read", TreePress.NONE, Check.read(x, due));
            Check.same("lay what was read", due.length, x.lay());
            x.clear();
        }
    }

    /** As many nodes and properties as there may be; looked at here and there, as calls are few. */
    private static void biggest() {
        Made made = new Made().node("");
        for (int i = 0; i < 385; i++) {
            made.property(0, i % 2 == 0 ? "" : "v");
        }
        for (int i = 1; i < 128; i++) {
            made.node("n").property(2, "").close();
        }
        byte[] due = made.close().last().row("a\0b\0");
        TreePress x = new TreePress();
        Check.same("read", TreePress.NONE, Check.read(x, due));
        Check.same("nodes", 128, x.nodes());
        Check.same("properties", 512, x.properties());
        Check.same("lay", due.length, x.lay());
        for (int i = 7; i < due.length; i += 173) {
            Check.same("byte " + i, due[i] & 255, x.laid(i));
        }
        for (int i = due.length - 8; i < due.length; i++) {
            Check.same("byte " + i, due[i] & 255, x.laid(i));
        }
    }
}
