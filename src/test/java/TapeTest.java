/** Promises 1 to 3: a new object, feed and end. */
public final class TapeTest {
    public static void main(String[] args) {
        newObject();
        feed();
        bytesOfTheTapeAreInOrder();
        end();
        limitOfTheTape();
        Check.finish();
    }

    private static void newObject() {
        TreePress x = new TreePress();
        Check.same("nodes of a new object", 1, x.nodes());
        Check.same("properties of a new object", 0, x.properties());
        Check.same("the first node's node", TreePress.NONE, x.node(0, 0));
        Check.same("the first node's name", 0, x.node(0, 3));
        Check.same("a new tape", 0, Check.tapeLength(x));
        Check.badIndex("nothing was laid down", () -> x.laid(0));
        Check.badArgument("the first node is the place", () -> x.close());
    }

    private static void feed() {
        TreePress x = new TreePress();
        for (int i = 1; i <= 500; i++) {
            Check.same("feed " + i, 20 * i, x.feed(i, -i, 0, Integer.MIN_VALUE, -1));
        }
    }

    private static void bytesOfTheTapeAreInOrder() {
        TreePress x = new TreePress();
        x.feed(0x61800102, 0xfffefdfc, 0x7f000000, 0x10203040, 0x050607ff);
        int[] due = {0x80, 1, 2, 255, 254, 253, 252, 127, 0, 0, 0, 16, 32, 48, 64, 5, 6, 7, 255};
        Check.same("property", 0, x.property(1));
        Check.same("its name", 'a', x.name(0, 0));
        Check.same("its value's length", due.length, x.about(0, 2));
        for (int i = 0; i < due.length; i++) {
            Check.same("value byte " + i, due[i], x.value(0, i));
        }
    }

    private static void end() {
        TreePress x = new TreePress();
        x.end(0);
        Check.badArgument("more than an empty tape has", () -> end(x, 1));
        x.feed(0x61626364, 0x65666768, 0, 0, 0);
        Check.badArgument("below 0", () -> end(x, -1));
        Check.badArgument("the lowest number", () -> end(x, Integer.MIN_VALUE));
        Check.badArgument("the highest number", () -> end(x, Integer.MAX_VALUE));
        Check.badArgument("one more than it has", () -> end(x, 21));
        Check.same("the tape stays", 20, Check.tapeLength(x));
        x.end(20);
        Check.same("all of it", 20, Check.tapeLength(x));
        x.end(8);
        Check.same("feed behind the cut", 28, x.feed(0x696a6b6c, 0, 0, 0, 0));
        x.end(12);
        Check.same("open", 1, x.open());
        Check.same("length of its name", 12, x.node(1, 3));
        for (int i = 0; i < 12; i++) {
            Check.same("byte " + i, 'a' + i, x.nodeName(1, i));
        }
        Check.same("used up", 0, Check.tapeLength(x));
    }

    /** More calls than are promised anything: the document names the limit all the same. */
    private static void limitOfTheTape() {
        TreePress x = new TreePress();
        for (int i = 1; i <= 65520 / 20; i++) {
            Check.same("feed " + i, 20 * i, x.feed(i, i, i, i, i));
        }
        Check.tooMuch("65540 bytes", () -> x.feed(0, 0, 0, 0, 0));
        x.end(65517);
        Check.tooMuch("65537 bytes", () -> x.feed(0, 0, 0, 0, 0));
        x.end(65516);
        Check.same("65536 bytes", 65536, x.feed(0, 0, 0, 0, 0));
        Check.tooMuch("65556 bytes", () -> x.feed(0, 0, 0, 0, 0));
        x.end(65536);
        Check.badArgument("more than it has", () -> end(x, 65537));
    }

    private static int end(TreePress x, int n) {
        x.end(n);
        return 0;
    }
}
