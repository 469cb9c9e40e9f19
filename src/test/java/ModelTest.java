import java.util.Random;

/**
 * All promises: long runs of calls, made by counting from a fixed seed, whose answers must be
 * those of the model. Each run stays below the 512 calls that the document speaks of.
 */
public final class ModelTest {
    private static final int CALLS = 512;
    private static final String LETTERS = "abz!~.-@0";

    private final Random chance;
    private final String run;
    private TreePress press;
    private Model model;
    private int calls;

    private ModelTest(long seed) {
        chance = new Random(seed);
        run = "run " + seed + ": ";
    }

    public static void main(String[] args) {
        int runs = args.length > 0 ? Integer.parseInt(args[0]) : 600;
        for (int seed = 1; seed <= runs; seed++) {
            ModelTest test = new ModelTest(seed);
            if (seed % 3 == 0) {
                test.changedRows();
            } else {
                test.mixedCalls();
            }
        }
        Check.finish();
    }

    private void begin() {
        press = new TreePress();
        model = new Model();
        calls = 0;
    }

    /** An exception is told by a number, the very class of it, so that it can be compared. */
    private static int answer(Check.Call call) {
        try {
            return call.run();
        } catch (RuntimeException e) {
            Class<?> kind = e.getClass();
            return kind == IndexOutOfBoundsException.class ? Model.REFUSED_INDEX
                    : kind == IllegalArgumentException.class ? Model.REFUSED_ARGUMENT
                    : kind == IllegalStateException.class ? Model.REFUSED_STATE : -999;
        }
    }

    private int same(String what, int due, Check.Call call) {
        calls++;
        int got = answer(call);
        Check.same(run + what, due, got);
        return got;
    }

    private void type(byte[] row) {
        for (int at = 0; at < row.length; at += 20) {
            int[] five = new int[5];
            for (int i = 0; i < 20; i++) {
                five[i / 4] |= (at + i < row.length ? row[at + i] & 255 : 0) << 24 - 8 * (i % 4);
            }
            same("feed", model.feed(five),
                    () -> press.feed(five[0], five[1], five[2], five[3], five[4]));
        }
        if (row.length > 0 && row.length % 20 != 0) {
            end(row.length);
        }
    }

    private void end(int n) {
        same("end " + n, model.end(n), () -> {
            press.end(n);
            return 0;
        });
    }

    private int below(int n) {
        return chance.nextInt(n);
    }

    private String someName() {
        int length = below(12) == 0 ? 28 + below(6) : 1 + below(3);
        StringBuilder text = new StringBuilder();
        for (int i = 0; i < length; i++) {
            text.append(LETTERS.charAt(below(below(3) == 0 ? LETTERS.length() : 2)));
        }
        if (below(25) == 0) {
            text.setCharAt(below(length), "/ \0\u007f\u00ff".charAt(below(5)));
        }
        return text.toString();
    }

    private String someValue() {
        int length = below(20) == 0 ? below(400) : below(9);
        StringBuilder text = new StringBuilder();
        for (int i = 0; i < length; i++) {
            text.append((char) below(256));
        }
        return text.toString();
    }

    private void typeProperty() {
        String name = someName();
        type(Check.bytes(name + someValue()));
        int k = below(15) == 0 ? below(40) - 2 : name.length();
        same("property " + k, model.property(k), () -> press.property(k));
    }

    private void typePath() {
        StringBuilder path = new StringBuilder();
        int steps = below(4);
        for (int i = 0; i < steps; i++) {
            path.append('/').append(someName());
        }
        if (below(8) == 0) {
            path.append('/');
        }
        type(Check.bytes(path.toString()));
        same("find " + path, model.find(), () -> press.find());
    }

    private void ask() {
        int i = below(model.nodes() + 2) - (below(9) == 0 ? 1 : 0);
        int p = below(model.properties() + 2) - (below(9) == 0 ? 1 : 0);
        int j = below(6) - (below(9) == 0 ? 1 : 0);
        same("nodes", model.nodes(), () -> press.nodes());
        same("properties", model.properties(), () -> press.properties());
        same("node " + i + " " + j, model.node(i, j), () -> press.node(i, j));
        same("about " + p + " " + j, model.about(p, j), () -> press.about(p, j));
        same("nodeName " + i + " " + j, model.nodeName(i, j), () -> press.nodeName(i, j));
        same("name " + p + " " + j, model.name(p, j), () -> press.name(p, j));
        same("value " + p + " " + j, model.value(p, j), () -> press.value(p, j));
    }

    private void layAndLook() {
        int length = same("lay", model.lay(), () -> press.lay());
        for (int n = 0; n < 8; n++) {
            int i = below(length + 2) - (below(9) == 0 ? 1 : 0);
            same("laid " + i, model.laid(i), () -> press.laid(i));
        }
    }

    private void mixedCalls() {
        begin();
        int closing = 1 + below(4);
        while (calls < CALLS - 40) {
            switch (below(12)) {
                case 0: case 1: case 2:
                    type(Check.bytes(someName()));
                    same("open", model.open(), () -> press.open());
                    break;
                case 3: case 4: case 5:
                    typeProperty();
                    break;
                case 6:
                    if (below(5) < closing) {
                        same("close", model.close(), () -> press.close());
                    }
                    break;
                case 7:
                    typePath();
                    break;
                case 8:
                    type(Check.bytes(someName()));
                    int i = below(model.nodes() + 1);
                    same("seek " + i, model.seek(i), () -> press.seek(i));
                    break;
                case 9:
                    ask();
                    break;
                case 10:
                    layAndLook();
                    break;
                default:
                    seldom();
                    break;
            }
        }
        lookAtAll();
    }

    private void seldom() {
        switch (below(12)) {
            case 0:
                press.clear();
                model.clear();
                break;
            case 1: case 2:
                end(0);
                break;
            case 3:
                end(below(40) - 2);
                break;
            case 4:
                same("read", model.read(), () -> press.read());
                break;
            default:
                type(new byte[0]);
                break;
        }
    }

    /** Free of the 512 calls: what is looked at no longer changes anything. */
    private void lookAtAll() {
        int length = same("lay", model.lay(), () -> press.lay());
        for (int i = 0; i < length; i++) {
            int at = i;
            same("laid " + i, model.laid(i), () -> press.laid(at));
        }
        for (int i = 0; i < model.nodes(); i++) {
            for (int what = 0; what < 4; what++) {
                int node = i;
                int asked = what;
                same("node " + i, model.node(i, what), () -> press.node(node, asked));
            }
        }
        same("close", model.close(), () -> press.close());
    }

    private byte[] someRow() {
        Made made = new Made();
        String names = "a\0ab\0bb\0/z\0 @\0" + (below(2) == 0 ? "z" : "");
        maybeNothing(made).node("");
        int depth = 1;
        boolean fresh = true;
        for (int i = below(14); i > 0; i--) {
            maybeNothing(made);
            int kind = below(3);
            if (kind == 0) {
                made.node("abz".substring(0, 1 + below(3)));
                depth++;
                fresh = true;
            } else if (kind == 1 && (fresh || below(12) == 0)) {
                made.property(below(12) == 0 ? below(20) : new int[] {0, 2, 3, 5, 6, 9}[below(6)],
                        someValue());
            } else if (depth > 1) {
                made.close();
                depth--;
                fresh = false;
            }
        }
        for (; depth > 0; depth--) {
            maybeNothing(made).close();
        }
        return maybeNothing(made).last().row(names);
    }

    private Made maybeNothing(Made made) {
        return below(6) == 0 ? made.nothing() : made;
    }

    private byte[] changed(byte[] row) {
        byte[] other = row;
        switch (below(6)) {
            case 0:
                break;
            case 1:
                other[below(row.length)] = (byte) chance.nextInt();
                break;
            case 2:
                Made.put(other, 4 * below(row.length / 4), below(12));
                break;
            case 3:
                other = new byte[below(row.length + 6)];
                System.arraycopy(row, 0, other, 0, Math.min(row.length, other.length));
                if (other.length >= 8) {
                    Made.put(other, 4, other.length);
                }
                break;
            case 4:
                moveStructureEnd(other, 4 * below(row.length / 4));
                break;
            default:
                other[56 + below(row.length - 56)] ^= (byte) (1 << below(8));
                break;
        }
        return other;
    }

    /** The head stays right, but what was structure is among the names then, or the reverse. */
    private static void moveStructureEnd(byte[] row, int end) {
        if (end >= 56) {
            Made.put(row, 12, end);
            Made.put(row, 32, row.length - end);
            Made.put(row, 36, end - 56);
        }
    }

    private void changedRows() {
        for (int n = 0; n < 40; n++) {
            begin();
            while (calls < CALLS - 150) {
                byte[] row = changed(someRow());
                if (row.length > 20 * 100) {
                    continue;
                }
                type(row);
                same("read", model.read(), () -> press.read());
                same("nodes", model.nodes(), () -> press.nodes());
                same("properties", model.properties(), () -> press.properties());
                same("close", model.close(), () -> press.close());
                type(Check.bytes(someName()));
                same("open", model.open(), () -> press.open());
                end(0);
            }
            lookAtAll();
        }
    }
}
