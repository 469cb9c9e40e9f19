/** Promises 18 and 19: find and seek. */
public final class FindTest {
    private static final int NONE = TreePress.NONE;

    public static void main(String[] args) {
        paths();
        firstOfThoseAlike();
        noWayBack();
        deepest();
        slashAloneOrNothing();
        noSuchNode();
        noPath();
        seek();
        seekTakesTheFirst();
        seekFindsNone();
        seekOfNoNode();
        Check.finish();
    }

    private static void finds(TreePress x, String path, int due) {
        Check.same("find " + path, due, Check.find(x, path));
        Check.same("find " + path + " uses up the tape", 0, Check.tapeLength(x));
    }

    private static void paths() {
        TreePress x = new TreePress();
        Check.open(x, "cpus");
        Check.open(x, "cpu@0");
        x.close();
        Check.open(x, "cpu@1");
        x.close();
        x.close();
        Check.open(x, "memory");
        finds(x, "", 0);
        finds(x, "/", 0);
        finds(x, "/cpus", 1);
        finds(x, "/cpus/cpu@0", 2);
        finds(x, "/cpus/cpu@1", 3);
        finds(x, "/memory", 4);
        String[] none = {"cpus", "//", "///", "/cpus/", "//cpus", "/cpus//cpu@0", "/cpu", "/cpuss",
            "/cpus/cpu@2", "/cpu@0", "/memory/cpu@0", "/cpus\0", "/cpus /cpu@0", "\0", "a", " ",
            "/cpus/cpu@0/", "/cpus/cpu@0/x", "/cpus\0/cpu@0", "/\0", "/ ", "/cpus\u00ff",
            "/abcdefghijklmnopqrstuvwxyzabcdefghijklmnopqrstuvwxyz", "/Cpus", "cpus/cpu@0"};
        for (String path : none) {
            finds(x, path, NONE);
        }
        Check.same("the place stays", 0, x.close());
        TreePress y = new TreePress();
        finds(y, "", 0);
        finds(y, "/", 0);
        finds(y, "/a", NONE);
    }

    private static void firstOfThoseAlike() {
        TreePress x = new TreePress();
        Check.open(x, "b");
        Check.open(x, "a");
        x.close();
        x.close();
        Check.open(x, "a");
        x.close();
        Check.open(x, "a");
        Check.open(x, "a");
        x.close();
        Check.open(x, "a");
        finds(x, "/a", 3);
        finds(x, "/b", 1);
        finds(x, "/b/a", 2);
    }

    /** The first one with a name is taken, even if only the second one leads on. */
    private static void noWayBack() {
        TreePress x = new TreePress();
        Check.open(x, "a");
        x.close();
        Check.open(x, "a");
        Check.open(x, "b");
        finds(x, "/a", 1);
        finds(x, "/a/b", NONE);
    }

    private static void deepest() {
        TreePress x = new TreePress();
        String name = "abcdefghijklmnopqrstuvwxyz01234";
        StringBuilder path = new StringBuilder();
        for (int i = 1; i < 16; i++) {
            Check.open(x, name);
            path.append('/').append(name);
        }
        finds(x, path.toString(), 15);
        finds(x, path + "/", NONE);
        finds(x, path + "/" + name, NONE);
        finds(x, path.substring(0, 32 * 14), 14);
    }

    private static void slashAloneOrNothing() {
        TreePress x = new TreePress();
        for (int i = 0; i < 3; i++) {
            Check.same("nothing", 0, x.find());
            finds(x, "/", 0);
            Check.open(x, "n");
        }
        Check.same("the place stays", 2, x.close());
    }

    private static void noSuchNode() {
        TreePress x = new TreePress();
        Check.property(x, "p", "");
        Check.open(x, "abc");
        Check.open(x, "de");
        String[] none = {"/ab", "/abcd", "/b", "/ABC", "/p", "/de", "/abc/abc", "/abc/d",
            "/abc/de/de", "/de/abc", "/x/de"};
        for (String path : none) {
            finds(x, path, NONE);
        }
        finds(x, "/abc/de", 2);
    }

    private static void noPath() {
        TreePress x = new TreePress();
        Check.open(x, "abc");
        Check.open(x, "de");
        String[] none = {"abc", "abc/de", "//", "/abc/", "/abc//de", "//abc", "/abc/de/", " /abc",
            "/abc ", "/abc\0", "\0/abc", "/abc\0/de", "/abc/\0", "\0", "/\0", "0"};
        for (String path : none) {
            finds(x, path, NONE);
        }
    }

    private static void seekTakesTheFirst() {
        TreePress x = new TreePress();
        Check.property(x, "q", "0");
        Check.property(x, "p", "1");
        Check.property(x, "p", "2");
        Check.open(x, "n");
        Check.property(x, "r", "3");
        Check.property(x, "p", "4");
        Check.property(x, "p", "5");
        Check.same("of the first node", 1, Check.seek(x, 0, "p"));
        Check.same("of another node", 4, Check.seek(x, 1, "p"));
    }

    private static void seekFindsNone() {
        TreePress x = new TreePress();
        Check.same("of no properties", NONE, Check.seek(x, 0, "p"));
        Check.property(x, "abc", "d");
        Check.open(x, "n");
        Check.same("of another node", NONE, Check.seek(x, 1, "abc"));
        Check.same("a node's name", NONE, Check.seek(x, 0, "n"));
        String[] none = {"", "ab", "abcd", "bc", "ABC", "abc\0", "/abc"};
        for (String name : none) {
            Check.same("seek '" + name + "'", NONE, Check.seek(x, 0, name));
        }
        Check.same("it is there", 0, Check.seek(x, 0, "abc"));
    }

    private static void seek() {
        TreePress x = new TreePress();
        Check.property(x, "reg", "1");
        Check.property(x, "size", "2");
        Check.property(x, "reg", "3");
        Check.open(x, "n");
        x.close();
        Check.open(x, "m");
        Check.property(x, "re", "");
        Check.property(x, "size", "4");
        int[][] due = {{0, 1, NONE}, {NONE, NONE, NONE}, {NONE, 4, 3}};
        String[] names = {"reg", "size", "re"};
        for (int i = 0; i < 3; i++) {
            for (int j = 0; j < 3; j++) {
                Check.same("seek " + names[j] + " in " + i, due[i][j],
                        Check.seek(x, i, names[j]));
                Check.same("the tape is used up", 0, Check.tapeLength(x));
            }
        }
        String[] none = {"", "r", "regs", "eg", "reg\0", "reg1", "/reg", "\0", "Reg", "size2",
            "regregregregregregregregregregregregregreg"};
        for (String name : none) {
            Check.same("seek '" + name + "'", NONE, Check.seek(x, 0, name));
            Check.same("the tape is used up", 0, Check.tapeLength(x));
        }
    }

    private static void seekOfNoNode() {
        TreePress x = new TreePress();
        Check.property(x, "reg", "1");
        Check.type(x, "reg");
        int[] wrong = {1, 2, -1, Integer.MIN_VALUE, Integer.MAX_VALUE};
        for (int i : wrong) {
            Check.badIndex("seek " + i, () -> x.seek(i));
        }
        Check.same("the tape stays", 3, Check.tapeLength(x));
        Check.same("seek 0", 0, x.seek(0));
        Check.same("nothing is on the tape", NONE, x.seek(0));
    }
}
