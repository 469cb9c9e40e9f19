/** Promises 1 to 3: a new object, feed and end. */
public final class TapeTest {
    public static void main(String[] args) {
        newObject();
        feed();
        bytesOfTheTapeAreInOrder();
        end();
        highestByteFirst();
        usedUpByWhatReadsIt();
        staysBehindAllOthers();
        cutAndTypedOn();
        limitOfTheTape();
        Check.finish();
    }

    private static void newObject() {
        TreePress x = new TreePress();
        Check.same("nodes of a new object", 1, x.nodes());
        Check.same("properties of a new object", 0, x.properties());
        Check.same("the first node's node", TreePress.NONE, x.node(0, 0));
        Check.same("the first node's name", 0, x.node(0, 3));
        Check.same("a new tape", 0, Check.tapeLength(x));
        Check.badIndex("nothing was laid down", () -> x.laid(0));
        Check.badArgument("the first node is the place", () -> x.close());
    }

    private static void feed() {
        TreePress x = new TreePress();
        for (int i = 1; i <= 500; i++) {
            Check.same("feed " + i, 20 * i, x.feed(i, -i, 0, Integer.MIN_VALUE, -1));
        }
    }

    private static void bytesOfTheTapeAreInOrder() {
        TreePress x = new TreePress();
        x.feed(0x61800102, 0xfffefdfc, 0x7f000000, 0x10203040, 0x050607ff);
        int[] due = {0x80, 1, 2, 255, 254, 253, 252, 127, 0, 0, 0, 16, 32, 48, 64, 5, 6, 7, 255};
        Check.same("property", 0, x.property(1));
        Check.same("its name", 'a', x.name(0, 0));
        Check.same("its value's length", due.length, x.about(0, 2));
        for (int i = 0; i < due.length; i++) {
            Check.same("value byte " + i, due[i], x.value(0, i));
        }
    }

    private static void end() {
        TreePress x = new TreePress();
        x.end(0);
        Check.badArgument("more than an empty tape has", () -> end(x, 1));
        x.feed(0x61626364, 0x65666768, 0, 0, 0);
        Check.badArgument("below 0", () -> end(x, -1));
        Check.badArgument("the lowest number", () -> end(x, Integer.MIN_VALUE));
        Check.badArgument("the highest number", () -> end(x, Integer.MAX_VALUE));
        Check.badArgument("one more than it has", () -> end(x, 21));
        Check.same("the tape stays", 20, Check.tapeLength(x));
        x.end(20);
        Check.same("all of it", 20, Check.tapeLength(x));
        x.end(8);
        Check.same("feed behind the cut", 28, x.feed(0x696a6b6c, 0, 0, 0, 0));
        x.end(12);
        Check.same("open", 1, x.open());
        Check.same("length of its name", 12, x.node(1, 3));
        for (int i = 0; i < 12; i++) {
            Check.same("byte " + i, 'a' + i, x.nodeName(1, i));
        }
        Check.same("used up", 0, Check.tapeLength(x));
    }

    /** Each of the five numbers, and numbers below 0, by the four bytes that it puts. */
    private static void highestByteFirst() {
        int[] numbers = {0x12345678, -1, Integer.MIN_VALUE, Integer.MAX_VALUE, -2, 1, 256, -256,
            0x00ff0000, 0};
        for (int n = 0; n < numbers.length; n++) {
            int[] five = new int[5];
            for (int i = 0; i < 5; i++) {
                five[i] = numbers[(n + i) % numbers.length];
            }
            TreePress x = new TreePress();
            Check.type(x, "p");
            Check.same("feed", 21, x.feed(five[0], five[1], five[2], five[3], five[4]));
            x.property(1);
            for (int i = 0; i < 20; i++) {
                Check.same("byte " + i, five[i / 4] >>> 24 - 8 * (i % 4) & 255, x.value(0, i));
            }
        }
    }

    private static void usedUp(String what, int due, int got, TreePress x) {
        Check.same(what, due, got);
        Check.same(what + " uses up the tape", 0, Check.tapeLength(x));
    }

    private static void usedUpByWhatReadsIt() {
        TreePress x = new TreePress();
        usedUp("property", 0, Check.property(x, "p", "v"), x);
        usedUp("open", 1, Check.open(x, "n"), x);
        usedUp("find", 1, Check.find(x, "/n"), x);
        usedUp("find that finds none", TreePress.NONE, Check.find(x, "/m"), x);
        usedUp("find of no path", TreePress.NONE, Check.find(x, "n"), x);
        usedUp("seek", 0, Check.seek(x, 0, "p"), x);
        usedUp("seek that finds none", TreePress.NONE, Check.seek(x, 0, "q"), x);
        byte[] row = Check.laid(x);
        usedUp("read", TreePress.NONE, Check.read(x, row), x);
        row[0] = 0;
        usedUp("read that fails", 0, Check.read(x, row), x);
        usedUp("read of too few", 3, Check.read(x, new byte[3]), x);
    }

    private static void staysBehindAllOthers() {
        TreePress x = new TreePress();
        Check.property(x, "p", "v");
        Check.open(x, "n");
        Check.type(x, "tape");
        x.close();
        x.lay();
        x.laid(0);
        x.nodes();
        x.properties();
        x.node(0, 1);
        x.about(0, 1);
        x.nodeName(1, 0);
        x.name(0, 0);
        x.value(0, 0);
        x.clear();
        x.end(4);
        Check.same("the tape stays", 4, Check.tapeLength(x));
        Check.same("open", 1, x.open());
        for (int i = 0; i < 4; i++) {
            Check.same("byte " + i, "tape".charAt(i), x.nodeName(1, i));
        }
    }

    private static void cutAndTypedOn() {
        TreePress x = new TreePress();
        for (int i = 0; i < 20; i++) {
            Check.same("feed", i + 20, x.feed(0x41414141 + 0x01010101 * i, -1, -1, -1, -1));
            x.end(i + 1);
        }
        Check.same("property", 0, x.property(1));
        for (int i = 0; i < 19; i++) {
            Check.same("byte " + i, 'B' + i, x.value(0, i));
        }
        x.feed(0x61616161, 0, 0, 0, 0);
        x.end(0);
        Check.same("cut to nothing", 0, Check.tapeLength(x));
        Check.badArgument("nothing to name a node", () -> x.open());
        Check.same("typed anew", 20, x.feed(0x62000000, 0, 0, 0, 0));
        x.end(1);
        Check.same("open", 1, x.open());
        Check.same("its name", 'b', x.nodeName(1, 0));
    }

    /** More calls than are promised anything: the document names the limit all the same. */
    private static void limitOfTheTape() {
        TreePress x = new TreePress();
        for (int i = 1; i <= 65520 / 20; i++) {
            Check.same("feed " + i, 20 * i, x.feed(i, i, i, i, i));
        }
        Check.tooMuch("65540 bytes", () -> x.feed(0, 0, 0, 0, 0));
        x.end(65517);
        Check.tooMuch("65537 bytes", () -> x.feed(0, 0, 0, 0, 0));
        x.end(65516);
        Check.same("65536 bytes", 65536, x.feed(0, 0, 0, 0, 0));
        Check.tooMuch("65556 bytes", () -> x.feed(0, 0, 0, 0, 0));
        x.end(65536);
        Check.badArgument("more than it has", () -> end(x, 65537));
    }

    private static int end(TreePress x, int n) {
        x.end(n);
        return 0;
    }
}
