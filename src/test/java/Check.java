/** What the tests have in common: counting wrong answers, and writing on the tape of an object. */
final class Check {
    private static int wrong = 0;

    private Check() {
    }

    /** A call of the face whose answer or exception is looked at. */
    interface Call {
        int run();
    }

    static void same(String what, int due, int got) {
        if (due != got) {
            wrong++;
            System.out.println(what + " answered " + got + ", due is " + due);
        }
    }

    static void same(String what, byte[] due, byte[] got) {
        same(what + ": length", due.length, got.length);
        for (int i = 0; i < due.length && i < got.length; i++) {
            same(what + ": byte " + i, due[i] & 255, got[i] & 255);
        }
    }

    static void isTrue(String what, boolean holds) {
        if (!holds) {
            wrong++;
            System.out.println(what + " does not hold");
        }
    }

    /** The very class is due, because none of the document's exceptions stands for another. */
    static void refused(String what, Class<? extends RuntimeException> due, Call call) {
        try {
            int got = call.run();
            wrong++;
            System.out.println(what + " answered " + got + ", due is " + due.getSimpleName());
        } catch (RuntimeException e) {
            if (e.getClass() != due) {
                wrong++;
                System.out.println(what + " threw " + e + ", due is " + due.getSimpleName());
            }
        }
    }

    static void badIndex(String what, Call call) {
        refused(what, IndexOutOfBoundsException.class, call);
    }

    static void badArgument(String what, Call call) {
        refused(what, IllegalArgumentException.class, call);
    }

    static void tooMuch(String what, Call call) {
        refused(what, IllegalStateException.class, call);
    }

    static void finish() {
        if (wrong != 0) {
            System.out.println(wrong + " answers are not as due");
            System.exit(1);
        }
    }

    static byte[] bytes(String text) {
        byte[] row = new byte[text.length()];
        for (int i = 0; i < row.length; i++) {
            row[i] = (byte) text.charAt(i);
        }
        return row;
    }

    /** Puts the bytes behind what is on the tape, which must be of full feeds or empty. */
    static void type(TreePress x, byte[] row) {
        int before = 0;
        for (int at = 0; at < row.length; at += 20) {
            int now = x.feed(word(row, at), word(row, at + 4), word(row, at + 8),
                    word(row, at + 12), word(row, at + 16));
            if (at == 0) {
                before = now - 20;
            }
        }
        if (row.length > 0) {
            x.end(before + row.length);
        }
    }

    static void type(TreePress x, String text) {
        type(x, bytes(text));
    }

    private static int word(byte[] row, int at) {
        int number = 0;
        for (int i = at; i < at + 4; i++) {
            number = number << 8 | (i < row.length ? row[i] & 255 : 0);
        }
        return number;
    }

    static int open(TreePress x, String name) {
        type(x, name);
        return x.open();
    }

    static int property(TreePress x, String name, String value) {
        type(x, name + value);
        return x.property(name.length());
    }

    static int read(TreePress x, byte[] row) {
        type(x, row);
        return x.read();
    }

    static int find(TreePress x, String path) {
        type(x, path);
        return x.find();
    }

    static int seek(TreePress x, int node, String name) {
        type(x, name);
        return x.seek(node);
    }

    /** How many bytes the tape has, told by feeding and cutting again. */
    static int tapeLength(TreePress x) {
        int length = x.feed(0, 0, 0, 0, 0) - 20;
        x.end(length);
        return length;
    }

    static byte[] laid(TreePress x) {
        byte[] row = new byte[x.lay()];
        for (int i = 0; i < row.length; i++) {
            row[i] = (byte) x.laid(i);
        }
        return row;
    }
}
