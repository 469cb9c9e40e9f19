/** Promise 10: read. */
public final class ReadTest {
    private static final int NONE = TreePress.NONE;
    private static final String LONGEST = "abcdefghijklmnopqrstuvwxyz01234";

    public static void main(String[] args) {
        whatWasLaidIsReadAgain();
        rowsThatEndInTheHead();
        numbersOfTheHead();
        sixteenZeros();
        structureThatEndsTooEarly();
        wrongNumbersOfTheStructure();
        nothingMayStandBetween();
        nameOfTheFirstNode();
        namesOfNodes();
        bytesThatFill();
        lengthsOfValues();
        namesOfProperties();
        namesAnywhere();
        tooManyNodes();
        tooDeep();
        tooManyProperties();
        tooManyBytesOfValues();
        tooManyBytesOfNames();
        tooManyBytesOfNodeNames();
        treeAndPlaceBehindRead();
        namesInAnyOrder();
        namesMoreThanOnce();
        anythingBetweenNames();
        nameEndsAmongTheNames();
        fourAtEachPlace();
        fourElsewhere();
        structureCutAnywhere();
        namesAreNoStructure();
        behindNine();
        headBeforeStructure();
        Check.finish();
    }

    private static void fails(String what, int due, byte[] row) {
        TreePress x = new TreePress();
        Check.open(x, "kept");
        Check.property(x, "p", "v");
        Check.same(what, due, Check.read(x, row));
        Check.same(what + ": the tape is used up", 0, Check.tapeLength(x));
        if (due != NONE) {
            Check.same(what + ": nodes stay", 2, x.nodes());
            Check.same(what + ": properties stay", 1, x.properties());
            Check.same(what + ": the name stays", 'k', x.nodeName(1, 0));
            Check.same(what + ": the value stays", 'v', x.value(0, 0));
        }
    }

    private static Made small() {
        return new Made().node("").property(0, "abc").node("n").property(2, "").close().close()
                .last();
    }

    private static byte[] smallRow() {
        return small().row("p\0q\0");
    }

    private static byte[] cut(byte[] row, int length) {
        byte[] part = new byte[length];
        System.arraycopy(row, 0, part, 0, Math.min(row.length, length));
        return part;
    }

    private static void whatWasLaidIsReadAgain() {
        TreePress x = new TreePress();
        Check.property(x, "model", "board\0");
        Check.open(x, "cpus");
        Check.property(x, "model", "\u00ff");
        Check.open(x, "cpu@0");
        byte[] row = Check.laid(x);
        TreePress y = new TreePress();
        Check.same("read", NONE, Check.read(y, row));
        Check.same("laid again", row, Check.laid(y));
        Check.same("nodes", 3, y.nodes());
        Check.same("node of 2", 1, y.node(2, 0));
        Check.same("properties", 2, y.properties());
        Check.same("value", 255, y.value(1, 0));
        Check.same("the first node alone", NONE,
                Check.read(y, new Made().node("").close().last().row()));
        Check.same("nodes", 1, y.nodes());
        Check.same("properties", 0, y.properties());
    }

    private static void rowsThatEndInTheHead() {
        byte[] row = smallRow();
        for (int length = 0; length < 8; length++) {
            fails("a row of " + length, length, cut(row, length));
        }
        for (int length = 8; length < 40; length++) {
            fails("a row of " + length + ", whole length", 4, cut(row, length));
            byte[] part = cut(row, length);
            Made.put(part, 4, length);
            fails("a row of " + length, length, part);
        }
        for (int length = 40; length < 56; length++) {
            byte[] part = cut(row, length);
            Made.put(part, 4, length);
            fails("a row of " + length, 32, part);
        }
        fails("no number yet", 3, new byte[] {1, 2, 3});
        fails("one wrong number", 0, new byte[] {1, 2, 3, 4});
        fails("wrong number before the end", 0, cut(new byte[0], 39));
        byte[] part = cut(row, 38);
        Made.put(part, 4, 38);
        Made.put(part, 8, 57);
        fails("wrong place of the structure before the end", 8, part);
        Made.put(part, 8, 56);
        Made.put(part, 16, 41);
        fails("the end counts where names begin", 38, part);
    }

    private static void numbersOfTheHead() {
        byte[] right = smallRow();
        for (int at = 0; at < 40; at++) {
            for (int bit = 0; bit < 8; bit++) {
                byte[] row = right.clone();
                row[at] ^= (byte) (1 << bit);
                // Where names begin is looked at before how many bytes the structure has.
                fails("byte " + at + " bit " + bit, at / 4 == 9 ? 12 : at / 4 * 4, row);
            }
        }
        byte[] row = right.clone();
        Made.put(row, 32, 5);
        Made.put(row, 16, 0);
        fails("the first wrong number counts", 16, row);
        row = cut(right, right.length + 1);
        fails("a byte more", 4, row);
        Made.put(row, 4, row.length);
        fails("a byte more, told in all", 32, row);
        Made.put(row, 32, 5);
        fails("a byte more, told in all and of the names", NONE, row);
        structureNotOfFours(right);
        numbersBeyond(right);
    }

    private static void structureNotOfFours(byte[] right) {
        int structure = right.length - 4 - 56;
        for (int more = 1; more <= 4; more++) {
            byte[] row = right.clone();
            Made.put(row, 12, 56 + structure + more);
            Made.put(row, 32, 4 - more);
            Made.put(row, 36, structure + more);
            int due = more < 4 ? 36 : 72;
            fails("structure " + more + " longer", due, row);
            row[40] = 1;
            fails("structure " + more + " longer, and a byte 1", more < 4 ? 36 : 40, row);
        }
    }

    /** Sums that would come out right only with 32 bits. */
    private static void numbersBeyond(byte[] right) {
        byte[] row = right.clone();
        Made.put(row, 36, 0xffffffc8L);
        Made.put(row, 12, 0);
        fails("56 and a structure of 2 to the 32nd less 56", 12, row);
        row = right.clone();
        Made.put(row, 36, 0xfffffff0L - 56);
        Made.put(row, 12, 0xfffffff0L);
        Made.put(row, 32, right.length + 16);
        fails("names beyond 2 to the 32nd", 32, row);
        row = right.clone();
        Made.put(row, 32, 0xffffffffL);
        fails("names of 2 to the 32nd less 1", 32, row);
    }

    private static void sixteenZeros() {
        for (int at = 40; at < 56; at++) {
            byte[] row = smallRow();
            row[at] = (byte) 128;
            fails("byte " + at, at, row);
            row[56] = 1;
            fails("byte " + at + " before the structure", at, row);
        }
    }

    private static void structureThatEndsTooEarly() {
        fails("no structure", 56, new Made().row("names"));
        fails("nothing alone", 60, new Made().nothing().row());
        fails("a node's number alone", 60, new Made().number(1).row());
        fails("the first node open", 64, new Made().node("").row());
        fails("no 9", 68, new Made().node("").close().row());
        fails("nothing for 9", 72, new Made().node("").close().nothing().row("names"));
        fails("a second node's number", 68, new Made().node("").number(1).row());
        fails("a second node's name without end", 72, new Made().node("").number(1).raw("abcd")
                .row("\0"));
        fails("a second node's name of 28 without end", 96, new Made().node("").number(1)
                .raw(LONGEST.substring(0, 28)).row("\0"));
        fails("a property's number alone", 68, new Made().node("").number(3).row("p\0"));
        fails("a value's length, and no more", 68, new Made().node("").number(3).number(0)
                .row("p\0"));
        fails("a value's length beyond, and no more", 68, new Made().node("").number(3).number(1)
                .row("p\0"));
        fails("a property, and no more", 76, new Made().node("").property(0, "").row("p\0"));
    }

    private static void wrongNumbersOfTheStructure() {
        long[] wrong = {0, 5, 6, 7, 8, 10, 255, 256, 0x01000000, 0x80000001L, 0xffffffffL};
        for (long number : wrong) {
            fails(number + " at first", 56, new Made().number(number).close().last().row());
            fails(number + " in a node", 64, new Made().node("").number(number).close().last()
                    .row());
            fails(number + " behind the node", 68, new Made().node("").close().number(number)
                    .row());
        }
        fails("2 at first", 56, new Made().close().last().row());
        fails("3 at first", 56, new Made().property(0, "").last().row("p\0"));
        fails("9 at first", 56, new Made().last().row());
        fails("9 in the first node", 64, new Made().node("").last().row());
        fails("9 in a node", 72, new Made().node("").node("n").last().row());
        fails("2 behind the first node", 68, new Made().node("").close().close().last().row());
        fails("3 behind the first node", 68, new Made().node("").close().property(0, "").last()
                .row("p\0"));
        fails("1 behind the first node", 68, new Made().node("").close().node("").close().last()
                .row());
        fails("9 behind 9", 72, new Made().node("").close().last().last().row());
        fails("4 behind 9", 72, new Made().node("").close().last().nothing().row());
        fails("0 behind 9", 72, new Made().node("").close().last().number(0).row());
        fails("3 behind a node", 76, new Made().node("").node("n").close().property(0, "")
                .close().last().row("p\0"));
        fails("3 behind a node, before its length", 76, new Made().node("").node("n").close()
                .number(3).row("p\0"));
    }

    private static void nothingMayStandBetween() {
        Made made = new Made().nothing().nothing().node("").nothing().property(0, "v").nothing()
                .property(2, "").nothing().node("n").nothing().close().nothing().node("m")
                .property(2, "w").nothing().close().nothing().close().nothing().nothing().last();
        byte[] row = made.row("p\0q\0");
        TreePress x = new TreePress();
        Check.same("4 between", NONE, Check.read(x, row));
        byte[] due = new Made().node("").property(0, "v").property(2, "").node("n").close()
                .node("m").property(2, "w").close().close().last().row("p\0q\0");
        Check.same("laid without 4", due, Check.laid(x));
        fails("4 for a part of a number", 76, new Made().nothing().node("").number(3).number(0)
                .nothing().close().last().row("p\0"));
    }

    private static void nameOfTheFirstNode() {
        for (int i = 0; i < 4; i++) {
            byte[] row = smallRow();
            row[60 + i] = 'a';
            fails("byte " + i, 60 + i, row);
        }
        fails("a name", 60, new Made().node("first").close().last().row());
    }

    private static void namesOfNodes() {
        fails("no name", 68, new Made().node("").node("").close().close().last().row());
        int[] wrong = {1, 9, 32, 47, 127, 128, 255};
        for (int b : wrong) {
            for (int n = 0; n < 6; n++) {
                String name = "abcdef".substring(0, n) + (char) b + "g";
                fails("byte " + b + " at " + n, 68 + n,
                        new Made().node("").node(name).close().close().last().row());
            }
        }
        int[] right = {33, 46, 48, 126};
        for (int b : right) {
            fails("byte " + b, NONE, new Made().node("").node("a" + (char) b).close().close()
                    .last().row());
        }
        for (int n = 1; n <= 31; n++) {
            fails("a name of " + n, NONE, new Made().node("").node(LONGEST.substring(0, n))
                    .close().close().last().row());
        }
        fails("a name of 32", 99, new Made().node("").node(LONGEST + "5").close().close().last()
                .row());
        fails("a name of 40", 99, new Made().node("").node(LONGEST + "567890123").close().close()
                .last().row());
        fails("a 32nd byte that ends the structure", 99, new Made().node("").number(1)
                .raw(LONGEST + "5").row());
    }

    private static void bytesThatFill() {
        for (int n = 1; n <= 8; n++) {
            String text = LONGEST.substring(0, n);
            byte[] named = new Made().node("").node(text).close().close().last().row();
            byte[] valued = new Made().node("").property(0, text).close().last().row("p\0");
            int behindName = 68 + n + 1;
            for (int at = behindName; at % 4 != 0; at++) {
                byte[] row = named.clone();
                row[at] = 'x';
                fails("byte " + at + " behind " + text, at, row);
            }
            for (int at = 76 + n; at % 4 != 0; at++) {
                byte[] row = valued.clone();
                row[at] = (byte) 128;
                fails("byte " + at + " behind the value " + text, at, row);
            }
        }
    }

    private static void lengthsOfValues() {
        Made made = new Made().node("").number(3).number(8).number(0).number(2).number(9);
        TreePress x = new TreePress();
        fails("a value up to the structure's end", 84, made.row("p\0"));
        long[] wrong = {9, 10, 12, 100, 0x7fffffffL, 0x80000000L, 0xfffffff0L, 0xffffffffL};
        for (long length : wrong) {
            fails("a value of " + length, 68, new Made().node("").number(3).number(length)
                    .number(0).number(2).number(9).row("p\0"));
        }
        Check.same("a value that looks like numbers", NONE, Check.read(x, new Made().node("")
                .number(3).number(8).number(0).number(2).number(9).number(2).number(9)
                .row("p\0")));
        Check.same("its byte 3", 2, x.value(0, 3));
        Check.same("its byte 7", 9, x.value(0, 7));
        fails("the length is looked at before the name", 68, new Made().node("").number(3)
                .number(100).number(100).number(2).number(9).row("p\0"));
    }

    private static void namesOfProperties() {
        long[] wrong = {4, 5, 100, 0x7fffffffL, 0x80000000L, 0xfffffffcL, 0xffffffffL};
        for (long place : wrong) {
            fails("a name at " + place, 72, new Made().node("").property(place, "v").close()
                    .last().row("pq\0r"));
        }
        fails("no names", 72, new Made().node("").property(0, "v").close().last().row());
        fails("a byte 0", 72, new Made().node("").property(2, "v").close().last().row("pq\0r\0"));
        fails("no byte 0 behind it", 72, new Made().node("").property(3, "v").close().last()
                .row("pq\0r"));
        fails("a space", 72, new Made().node("").property(0, "v").close().last().row("p q\0"));
        fails("a slash", 72, new Made().node("").property(0, "v").close().last().row("p/q\0"));
        fails("behind the slash", NONE, new Made().node("").property(2, "v").close().last()
                .row("p/q\0"));
        fails("byte 127", 72, new Made().node("").property(0, "v").close().last().row("p\u007f\0"));
        fails("byte 255", 72, new Made().node("").property(0, "v").close().last().row("\u00ff\0"));
        fails("31 bytes", NONE, new Made().node("").property(0, "v").close().last()
                .row(LONGEST + "\0"));
        fails("32 bytes", 72, new Made().node("").property(0, "v").close().last()
                .row(LONGEST + "5\0"));
        fails("the last 31 of 32 bytes", NONE, new Made().node("").property(1, "v").close().last()
                .row(LONGEST + "5\0"));
        fails("31 bytes without an end", 72, new Made().node("").property(0, "v").close().last()
                .row(LONGEST));
        byte[] row = new Made().node("").property(9, "v").close().last().row("p\0");
        row[77] = 1;
        fails("the name is looked at before what fills", 72, row);
    }

    private static void namesAnywhere() {
        TreePress x = new TreePress();
        byte[] row = new Made().node("").property(7, "1").property(3, "2").property(12, "3")
                .property(1, "4").property(8, "5").close().last().row("/size\0/size\0ze\0 //");
        Check.same("names anywhere", NONE, Check.read(x, row));
        byte[] due = new Made().node("").property(0, "1").property(5, "2").property(5, "3")
                .property(0, "4").property(8, "5").close().last().row("size\0ze\0ize\0");
        Check.same("laid in order, each but once", due, Check.laid(x));
        fails("names that nothing has", NONE, new Made().node("").close().last()
                .row("/ \u00ff\0\0" + LONGEST + LONGEST));
    }

    private static void tooManyNodes() {
        Made made = new Made().node("");
        for (int i = 1; i < 128; i++) {
            made.node("n").close();
        }
        int here = made.here();
        made.node("n").close().close().last();
        fails("129 nodes", here, made.row());
        Made fewer = new Made().node("");
        for (int i = 1; i < 128; i++) {
            fewer.node("n").close();
        }
        TreePress x = new TreePress();
        Check.same("128 nodes", NONE, Check.read(x, fewer.close().last().row()));
        Check.same("nodes", 128, x.nodes());
    }

    private static void tooDeep() {
        for (int depth = 15; depth <= 17; depth++) {
            Made made = new Made().node("");
            int due = NONE;
            for (int i = 2; i <= depth; i++) {
                due = i == 17 ? made.here() : due;
                made.node("n");
            }
            for (int i = 1; i <= depth; i++) {
                made.close();
            }
            fails(depth + " nodes one within another", due, made.last().row());
        }
    }

    private static void tooManyProperties() {
        for (int count = 511; count <= 513; count++) {
            Made made = new Made().node("");
            int due = NONE;
            for (int i = 1; i <= count; i++) {
                due = i == 513 ? made.here() : due;
                made.property(0, "");
            }
            fails(count + " properties", due, made.close().last().row("p\0"));
        }
    }

    /** 12,400 bytes of names, as a name counts for each of its properties. */
    private static Made many() {
        Made made = new Made().node("");
        for (int i = 0; i < 400; i++) {
            made.property(2, "");
        }
        return made;
    }

    private static String value(int length) {
        StringBuilder text = new StringBuilder();
        for (int i = 0; i < length; i++) {
            text.append((char) (i % 256));
        }
        return text.toString();
    }

    private static void tooManyBytesOfValues() {
        int here = many().here();
        String names = "p\0" + LONGEST + "\0";
        fails("16384 bytes", NONE, many().property(0, value(3983)).close().last().row(names));
        fails("a value too long", here + 4,
                many().property(0, value(3985)).close().last().row(names));
        fails("a value too long, before a wrong name", here + 4,
                many().property(1, value(3985)).close().last().row(names));
    }

    private static void tooManyBytesOfNames() {
        int here = many().here();
        String names = "p\0" + LONGEST + "\0";
        fails("a name too long", here + 8,
                many().property(0, value(3984)).close().last().row(names));
        fails("a longer name too long", here + 8,
                many().property(2, value(3954)).close().last().row(names));
        fails("a longer name not too long", NONE,
                many().property(2, value(3953)).close().last().row(names));
    }

    private static void tooManyBytesOfNodeNames() {
        String names = "p\0" + LONGEST + "\0";
        for (int room = 0; room <= 5; room++) {
            Made made = many().property(0, value(3983 - room));
            int here = made.here() + 4;
            byte[] row = made.node("abcd").close().close().last().row(names);
            fails("a node's name with room for " + room, room < 4 ? here + room : NONE, row);
        }
        Made made = many().property(0, value(3982));
        int here = made.here() + 4;
        fails("a second node", here + 12, made.node("a").close().node("b").close().close().last()
                .row(names));
    }

    private static void treeAndPlaceBehindRead() {
        TreePress x = new TreePress();
        Check.open(x, "a");
        Check.open(x, "b");
        Check.same("a row that fails", 3, Check.read(x, new byte[3]));
        Check.badArgument("the place is the first node", () -> x.close());
        Check.same("nodes stay", 3, x.nodes());
        Check.same("open in the first node", 3, Check.open(x, "c"));
        Check.same("node of 3", 0, x.node(3, 0));
        byte[] row = smallRow();
        row[row.length - 8] ^= 1;
        Check.same("a row that fails at its last number", row.length - 8, Check.read(x, row));
        Check.badArgument("the place is the first node", () -> x.close());
        Check.same("nodes stay", 4, x.nodes());
        Check.type(x, "pv");
        Check.badArgument("which has nodes", () -> x.property(1));
        x.end(0);
        Check.same("a row that does not", NONE, Check.read(x, smallRow()));
        Check.badArgument("the place is the first node", () -> x.close());
        Check.type(x, "pv");
        Check.badArgument("which has a node", () -> x.property(1));
        Check.same("open in it", 2, x.open());
        Check.same("node of 2", 0, x.node(2, 0));
        Check.same("another row", NONE, Check.read(x, new Made().node("").property(0, "v")
                .close().last().row("p\0")));
        Check.same("one more property of the first node", 1, Check.property(x, "q", "w"));
        Check.same("properties of it", 2, x.node(0, 1));
        Check.same("the one that was read", 'v', x.value(0, 0));
    }

    /** Reads, and compares with the tree that a row without liberties gives. */
    private static void readsAs(String what, byte[] due, byte[] row) {
        TreePress x = new TreePress();
        Check.same(what, NONE, Check.read(x, row));
        Check.same(what, due, Check.laid(x));
    }

    private static void namesInAnyOrder() {
        byte[] due = new Made().node("").property(0, "1").property(3, "2").property(7, "3")
                .close().last().row("pp\0qqq\0r\0");
        int[][] offsets = {{0, 3, 7}, {0, 5, 3}, {4, 0, 7}, {6, 0, 4}, {2, 5, 0}, {6, 2, 0}};
        String[] names = {"pp\0qqq\0r\0", "pp\0r\0qqq\0", "qqq\0pp\0r\0", "qqq\0r\0pp\0",
            "r\0pp\0qqq\0", "r\0qqq\0pp\0"};
        for (int i = 0; i < names.length; i++) {
            readsAs("order " + i, due, new Made().node("").property(offsets[i][0], "1")
                    .property(offsets[i][1], "2").property(offsets[i][2], "3").close().last()
                    .row(names[i]));
        }
    }

    private static void namesMoreThanOnce() {
        byte[] due = new Made().node("").property(0, "1").property(0, "2").property(0, "3")
                .close().last().row("pp\0");
        readsAs("once for each property", due, new Made().node("").property(6, "1")
                .property(0, "2").property(3, "3").close().last().row("pp\0pp\0pp\0"));
        readsAs("within another", due, new Made().node("").property(1, "1").property(5, "2")
                .property(1, "3").close().last().row("qpp\0/pp\0"));
    }

    private static void anythingBetweenNames() {
        byte[] due = new Made().node("").property(0, "1").property(2, "2").close().last()
                .row("p\0q\0");
        String[] others = {"", "\0", "\0\0\0", "/", " ", "\u00ff", "\1", LONGEST + LONGEST,
            "other\0", "/\0 \u0080"};
        for (String other : others) {
            int n = other.length();
            readsAs("before", due, new Made().node("").property(n + 1, "1").property(n + 3, "2")
                    .close().last().row(other + "\0p\0q\0"));
            readsAs("between", due, new Made().node("").property(0, "1").property(n + 3, "2")
                    .close().last().row("p\0" + other + "\0q\0"));
            readsAs("behind", due, new Made().node("").property(0, "1").property(2, "2")
                    .close().last().row("p\0q\0" + other));
        }
    }

    private static void nameEndsAmongTheNames() {
        byte[] row = new Made().node("").property(0, "v").close().last().row("p");
        fails("a name that the row ends", 72, row);
        fails("the same, and a byte 0 behind it", NONE, new Made().node("").property(0, "v")
                .close().last().row("p\0"));
        fails("a name right behind the names", 72, new Made().node("").property(2, "v").close()
                .last().row("p\0"));
        fails("the byte 0 itself", 72, new Made().node("").property(1, "v").close().last()
                .row("p\0"));
    }

    /** One 4, or three, before each number 1, 2, 3 and 9. */
    private static void fourAtEachPlace() {
        byte[] due = new Made().node("").property(0, "v").property(2, "").node("n")
                .property(0, "w").node("m").close().close().node("o").close().close().last()
                .row("p\0q\0");
        for (int count = 1; count <= 3; count++) {
            for (int place = 0; place < 12; place++) {
                readsAs(count + " numbers 4 before part " + place, due,
                        withFours(place, count).row("p\0q\0"));
            }
        }
        fails("4 behind 9", withFours(12, 0).here(), withFours(12, 1).row("p\0q\0"));
    }

    private static Made withFours(int place, int count) {
        Made made = new Made();
        for (int part = 0; part < 13; part++) {
            for (int i = 0; part == place && i < count; i++) {
                made.nothing();
            }
            addPart(made, part);
        }
        return made;
    }

    private static void addPart(Made made, int part) {
        switch (part) {
            case 0: made.node(""); break;
            case 1: made.property(0, "v"); break;
            case 2: made.property(2, ""); break;
            case 3: made.node("n"); break;
            case 4: made.property(0, "w"); break;
            case 5: made.node("m"); break;
            case 6: case 7: case 9: case 10: made.close(); break;
            case 8: made.node("o"); break;
            case 11: made.last(); break;
            default: break;
        }
    }

    private static void fourElsewhere() {
        fails("4 as the first node's name", 63, new Made().number(1).nothing().number(0).close()
                .last().row());
        fails("4 before a node's name", 68, new Made().node("").number(1).nothing().raw("n\0\0\0")
                .close().close().last().row());
        fails("4 before a value's length is the length", 72, new Made().node("").number(3)
                .nothing().number(100).number(0).close().last().row("p\0"));
        fails("4 behind the length is the name", 72, new Made().node("").number(3).number(0)
                .nothing().number(0).close().last().row("p\0"));
    }

    /** Where a structure that is cut fails: at its end, but for a value that would go beyond. */
    private static void structureCutAnywhere() {
        String names = "p\0";
        Made made = new Made().node("").property(0, "12345678").node("abcdef").close().close()
                .last();
        byte[] whole = made.row(names);
        int structure = whole.length - 56 - names.length();
        for (int length = 0; length < structure; length += 4) {
            byte[] row = new byte[56 + length + names.length()];
            System.arraycopy(whole, 0, row, 0, 56 + length);
            row[56 + length] = 'p';
            Made.put(row, 4, row.length);
            Made.put(row, 12, 56 + length);
            Made.put(row, 32, names.length());
            Made.put(row, 36, length);
            boolean inValue = length >= 16 && length < 28;
            fails("a structure of " + length, inValue ? 68 : 56 + length, row);
        }
    }

    /** Where the structure ends too early, it ends, even if the names would go on with it. */
    private static void namesAreNoStructure() {
        String last = "\0\0\0\11";
        String close = "\0\0\0\2" + last;
        fails("9 among the names", 68, new Made().node("").close().row(last));
        fails("2 among the names", 64, new Made().node("").row(close));
        fails("4 among the names", 68, new Made().node("").close().row("\0\0\0\4" + last));
        fails("1 among the names", 56, new Made().row("\0\0\0\1\0\0\0\0" + close));
        fails("the first node's name among the names", 60, new Made().number(1)
                .row("\0\0\0\0" + close));
        fails("a name's end among the names", 72, new Made().node("").number(1).raw("abcd")
                .row("\0\0\0\0\0\0\0\2" + close));
        fails("a property among the names", 64, new Made().node("")
                .row("\0\0\0\3\0\0\0\0\0\0\0\24" + close + "p\0"));
        fails("a value's length among the names", 68, new Made().node("").number(3)
                .row("\0\0\0\0\0\0\0\20" + close + "p\0"));
        fails("a value among the names", 68, new Made().node("").number(3).number(4).number(12)
                .row("abcd" + close + "p\0"));
    }

    private static void behindNine() {
        int[] more = {0, 1, 2, 3, 4, 9, -1};
        for (int number : more) {
            fails(number + " behind 9", 72, new Made().node("").close().last().number(number)
                    .row("p\0"));
            fails(number + " twice behind 9", 72, new Made().node("").close().last()
                    .number(number).number(number).row());
            fails(number + " behind 9 and 4 before", 76, new Made().node("").close().nothing()
                    .last().number(number).row());
        }
    }

    /** Each number of the head comes before whatever is wrong behind it. */
    private static void headBeforeStructure() {
        byte[] row = smallRow();
        row[56] = 1;
        fails("the structure", 56, row);
        row[55] = 1;
        fails("the last byte 0", 55, row);
        row[40] = 1;
        fails("the first byte 0", 40, row);
        int[] places = {32, 28, 24, 20, 16, 12, 8, 4, 0};
        for (int place : places) {
            row[place] ^= 1;
            fails("number at " + place, place, row);
        }
    }
}
