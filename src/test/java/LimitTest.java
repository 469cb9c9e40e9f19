/** Terms, TREE: its four limits, each one below, reached and exceeded, by calls and by rows. */
public final class LimitTest {
    private static final int NONE = TreePress.NONE;
    private static final String LONGEST = "abcdefghijklmnopqrstuvwxyz01234";
    private static final String NAMES = "p\0" + LONGEST + "\0";
    private static final int LONG_NAME = 2;

    public static void main(String[] args) {
        nodesByCalls();
        nodesByRows();
        depthByCalls();
        depthByRows();
        depthBeginsAnewBeside();
        propertiesByCalls();
        propertiesByRows();
        bytesByProperty();
        bytesByOpen();
        bytesOfValuesRead();
        bytesOfNamesRead();
        bytesOfNodeNamesRead();
        nameOfEachPropertyCounts();
        allLimitsAtOnce();
        fullTreeIsReplaced();
        fullTreeIsCleared();
        rowThatWasTooMuchLeavesNothing();
        Check.finish();
    }

    private static String value(int length) {
        StringBuilder text = new StringBuilder();
        for (int i = 0; i < length; i++) {
            text.append((char) (i % 251));
        }
        return text.toString();
    }

    private static Made nodes(int count) {
        Made made = new Made().node("");
        for (int i = 1; i < count; i++) {
            made.node("n").close();
        }
        return made;
    }

    private static Made properties(int count, int nameAt) {
        Made made = new Made().node("");
        for (int i = 0; i < count; i++) {
            made.property(nameAt, "");
        }
        return made;
    }

    /** One node whose properties have so many bytes, names and values together. */
    private static Made bytes(int count) {
        Made made = properties(400, LONG_NAME);
        return made.property(0, value(count - 400 * 31 - 1));
    }

    private static TreePress reading(Made open) {
        TreePress x = new TreePress();
        Check.same("read", NONE, Check.read(x, open.close().last().row(NAMES)));
        return x;
    }

    private static void nodesByCalls() {
        TreePress x = new TreePress();
        for (int i = 1; i <= 127; i++) {
            Check.same("node " + i, i, Check.open(x, "n"));
            x.close();
        }
        Check.type(x, "n");
        Check.tooMuch("node 129 of all", () -> x.open());
        Check.same("nodes", 128, x.nodes());
    }

    private static void nodesByRows() {
        for (int count = 126; count <= 128; count++) {
            TreePress x = reading(nodes(count));
            Check.same("nodes read", count, x.nodes());
            Check.type(x, "n");
            if (count < 128) {
                Check.same("one more", count, x.open());
            } else {
                Check.tooMuch("one more", () -> x.open());
            }
        }
        int here = nodes(128).here();
        Check.same("129 nodes", here, Check.read(new TreePress(),
                nodes(129).close().last().row()));
        Check.same("129 nodes, the last without a name", here, Check.read(new TreePress(),
                nodes(128).number(1).row()));
    }

    private static void depthByCalls() {
        TreePress x = new TreePress();
        for (int i = 1; i <= 15; i++) {
            Check.same("within " + i, i, Check.open(x, "n"));
        }
        Check.type(x, "n");
        Check.tooMuch("within 16", () -> x.open());
        Check.same("nodes", 16, x.nodes());
        Check.same("the place stays", 14, x.close());
    }

    private static Made within(int depth) {
        Made made = new Made().node("");
        for (int i = 2; i <= depth; i++) {
            made.node("n");
        }
        return made;
    }

    private static byte[] closed(Made made, int depth) {
        for (int i = 1; i <= depth; i++) {
            made.close();
        }
        return made.last().row(NAMES);
    }

    private static void depthByRows() {
        Check.same("15 within", NONE, Check.read(new TreePress(), closed(within(15), 15)));
        Check.same("16 within", NONE, Check.read(new TreePress(), closed(within(16), 16)));
        Check.same("17 within", within(16).here(),
                Check.read(new TreePress(), closed(within(17), 17)));
    }

    private static void depthBeginsAnewBeside() {
        Made made = within(16).close().node("m").property(0, "");
        TreePress x = new TreePress();
        Check.same("a second one so deep", NONE, Check.read(x, closed(made, 16)));
        Check.same("nodes", 17, x.nodes());
        Check.same("node of the last", 14, x.node(16, 0));
        Made deeper = within(16).close().node("m");
        int here = deeper.here();
        Check.same("one in that", here,
                Check.read(x, closed(deeper.node("o"), 17)));
    }

    private static void propertiesByCalls() {
        TreePress x = reading(properties(510, 0));
        Check.same("511", 510, Check.property(x, "q", ""));
        Check.same("512", 511, Check.property(x, "q", ""));
        Check.type(x, "q");
        Check.tooMuch("513", () -> x.property(1));
        Check.same("properties", 512, x.properties());
        Check.same("a node", 1, x.open());
        Check.type(x, "q");
        Check.tooMuch("513, of another node", () -> x.property(1));
    }

    private static void propertiesByRows() {
        for (int count = 510; count <= 512; count++) {
            Check.same("properties read", count, reading(properties(count, 0)).properties());
        }
        int here = properties(512, 0).here();
        Check.same("513", here, Check.read(new TreePress(),
                properties(513, 0).close().last().row(NAMES)));
        Check.same("513, of another node", here + 8, Check.read(new TreePress(),
                properties(512, 0).node("n").property(0, "").close().close().last().row(NAMES)));
        Check.same("513, only its number", here, Check.read(new TreePress(),
                properties(512, 0).number(3).row(NAMES)));
    }

    private static void bytesByProperty() {
        for (int more = 0; more <= 3; more++) {
            TreePress x = reading(bytes(16384 - 2));
            Check.type(x, "abc".substring(0, more));
            int k = Math.min(more, 1);
            if (more == 0) {
                Check.badArgument("no name", () -> x.property(0));
            } else if (more <= 2) {
                Check.same("16382 and " + more, 401, x.property(k));
            } else {
                Check.tooMuch("16385, by its value", () -> x.property(k));
                Check.tooMuch("16385, by its name", () -> x.property(3));
            }
        }
    }

    private static void bytesByOpen() {
        for (int more = 1; more <= 3; more++) {
            TreePress x = reading(bytes(16384 - 2));
            Check.type(x, "abc".substring(0, more));
            if (more <= 2) {
                Check.same("16382 and " + more, 1, x.open());
            } else {
                Check.tooMuch("16385", () -> x.open());
            }
        }
    }

    private static void bytesOfValuesRead() {
        int here = properties(400, LONG_NAME).here();
        int[] lengths = {3982, 3983, 3984, 3985, 3986};
        // One byte of the name of this property comes only behind the length of its value.
        int[] due = {NONE, NONE, here + 8, here + 4, here + 4};
        for (int i = 0; i < lengths.length; i++) {
            byte[] row = properties(400, LONG_NAME).property(0, value(lengths[i])).close().last()
                    .row(NAMES);
            Check.same("12400 bytes and a value of " + lengths[i], due[i],
                    Check.read(new TreePress(), row));
        }
        Check.same("a value of 16383 alone", NONE, Check.read(new TreePress(),
                new Made().node("").property(0, value(16383)).close().last().row(NAMES)));
        Check.same("a value of 16384 alone", 72, Check.read(new TreePress(),
                new Made().node("").property(0, value(16384)).close().last().row(NAMES)));
        Check.same("a value of 16385 alone", 68, Check.read(new TreePress(),
                new Made().node("").property(0, value(16385)).close().last().row(NAMES)));
    }

    private static void bytesOfNamesRead() {
        for (int room = 29; room <= 32; room++) {
            Made made = bytes(16384 - room);
            int here = made.here();
            int due = room < 31 ? here + 8 : NONE;
            Check.same("a name of 31 with room for " + room, due, Check.read(new TreePress(),
                    made.property(LONG_NAME, "").close().last().row(NAMES)));
        }
        Made made = bytes(16384);
        int here = made.here();
        Check.same("no room for a name, nor a value", here + 4, Check.read(new TreePress(),
                made.property(0, "v").close().last().row(NAMES)));
    }

    private static void bytesOfNodeNamesRead() {
        for (int room = 0; room <= 7; room++) {
            Made made = bytes(16384 - room);
            int here = made.here() + 4;
            Check.same("a node's name of 6 with room for " + room,
                    room < 6 ? here + room : NONE, Check.read(new TreePress(),
                    made.node("abcdef").close().close().last().row(NAMES)));
        }
        Made made = bytes(16384 - 31);
        int here = made.here() + 4;
        Check.same("one of 31 fills it", NONE, Check.read(new TreePress(),
                made.node(LONGEST).close().close().last().row(NAMES)));
        Made longer = bytes(16384 - 31).node(LONGEST.substring(1)).close();
        Check.same("two of 30 and 2", here + 32 + 4 + 4 + 1, Check.read(new TreePress(),
                longer.node("ab").close().close().last().row(NAMES)));
    }

    private static void nameOfEachPropertyCounts() {
        TreePress x = reading(bytes(16384 - 31));
        Check.type(x, LONGEST);
        Check.same("a name that others have, 31 bytes more", 401, x.property(31));
        Check.type(x, "p");
        Check.tooMuch("a name that others have", () -> x.property(1));
        x.clear();
        Check.same("one property more", 0, x.property(1));
    }

    private static void allLimitsAtOnce() {
        Made made = properties(300, LONG_NAME);
        for (int i = 2; i <= 16; i++) {
            made.node("n").property(0, "");
        }
        made.property(0, value(16384 - 300 * 31 - 15 * 2 - 112 - 1 - 196));
        for (int i = 0; i < 112; i++) {
            made.close().node("m");
        }
        for (int i = 0; i < 196; i++) {
            made.property(0, "");
        }
        TreePress x = new TreePress();
        Check.same("read", NONE, Check.read(x, closed(made, 16)));
        Check.same("nodes", 128, x.nodes());
        Check.same("properties", 512, x.properties());
        int length = x.lay();
        Check.same("its length at 6", length >> 8 & 255, x.laid(6));
        Check.same("its length at 7", length & 255, x.laid(7));
        Check.same("the last byte of its names", 0, x.laid(length - 1));
        Check.same("the last name", 'p', x.laid(length - 2));
    }

    private static void fullTreeIsReplaced() {
        TreePress x = reading(bytes(16384));
        Check.same("another full one", NONE,
                Check.read(x, bytes(16384).close().last().row(NAMES)));
        Check.same("128 nodes", NONE, Check.read(x, nodes(128).close().last().row()));
        Check.same("nodes", 128, x.nodes());
        Check.same("properties", 0, x.properties());
    }

    private static void fullTreeIsCleared() {
        TreePress x = reading(properties(512, 0));
        x.clear();
        Check.same("property", 0, Check.property(x, "p", value(1000)));
        TreePress y = reading(nodes(128));
        y.clear();
        for (int i = 1; i <= 15; i++) {
            Check.same("open " + i, i, Check.open(y, LONGEST));
        }
    }

    private static void rowThatWasTooMuchLeavesNothing() {
        TreePress x = new TreePress();
        byte[] tooMuch = bytes(16384).property(0, "").close().last().row(NAMES);
        Check.same("too many bytes", bytes(16384).here() + 8, Check.read(x, tooMuch));
        Check.same("nodes", 1, x.nodes());
        Check.same("properties", 0, x.properties());
        Check.same("a full one", NONE, Check.read(x, bytes(16384).close().last().row(NAMES)));
        Check.same("properties", 401, x.properties());
    }
}
