import java.io.ByteArrayOutputStream;
import java.util.ArrayList;
import java.util.List;

/**
 * The document once more, in another way: a tree of objects that is numbered anew for each
 * question, and a reader that goes down into the nodes and throws where the row fails.
 */
final class Model {
    static final int REFUSED_INDEX = -101;
    static final int REFUSED_ARGUMENT = -102;
    static final int REFUSED_STATE = -103;
    private static final int NONE = -1;

    private static final class Node {
        final String name;
        final Node around;
        final List<String[]> properties = new ArrayList<>();
        final List<Node> nodes = new ArrayList<>();

        Node(String name, Node around) {
            this.name = name;
            this.around = around;
        }

        int depth() {
            return around == null ? 1 : around.depth() + 1;
        }
    }

    private static final class Failed extends RuntimeException {
        private static final long serialVersionUID = 1;
        final int place;

        Failed(int place) {
            this.place = place;
        }
    }

    private String tape = "";
    private Node first = new Node("", null);
    private Node place = first;
    private byte[] laid = new byte[0];

    int feed(int[] numbers) {
        StringBuilder more = new StringBuilder(tape);
        for (int x : numbers) {
            more.append((char) (x >>> 24)).append((char) (x >> 16 & 255))
                    .append((char) (x >> 8 & 255)).append((char) (x & 255));
        }
        if (more.length() > 65536) {
            return REFUSED_STATE;
        }
        tape = more.toString();
        return tape.length();
    }

    int end(int n) {
        if (n < 0 || n > tape.length()) {
            return REFUSED_ARGUMENT;
        }
        tape = tape.substring(0, n);
        return 0;
    }

    int clear() {
        first = new Node("", null);
        place = first;
        return 0;
    }

    private String usedTape() {
        String used = tape;
        tape = "";
        return used;
    }

    private static boolean isName(String text) {
        return text.matches("[!-.0-~]{1,31}");
    }

    private static void collect(Node node, List<Node> all) {
        all.add(node);
        for (Node each : node.nodes) {
            collect(each, all);
        }
    }

    private static List<Node> all(Node first) {
        List<Node> all = new ArrayList<>();
        collect(first, all);
        return all;
    }

    private static int propertyCount(Node first) {
        int count = 0;
        for (Node each : all(first)) {
            count += each.properties.size();
        }
        return count;
    }

    private static int textLength(Node first) {
        int length = 0;
        for (Node each : all(first)) {
            length += each.name.length();
            for (String[] property : each.properties) {
                length += property[0].length() + property[1].length();
            }
        }
        return length;
    }

    int open() {
        if (!isName(tape)) {
            return REFUSED_ARGUMENT;
        }
        if (nodes() == 128 || place.depth() == 16 || textLength(first) + tape.length() > 16384) {
            return REFUSED_STATE;
        }
        Node made = new Node(usedTape(), place);
        place.nodes.add(made);
        place = made;
        return all(first).indexOf(made);
    }

    int property(int k) {
        if (k < 0 || k > tape.length() || !isName(tape.substring(0, k))
                || !place.nodes.isEmpty()) {
            return REFUSED_ARGUMENT;
        }
        if (properties() == 512 || textLength(first) + tape.length() > 16384) {
            return REFUSED_STATE;
        }
        String used = usedTape();
        place.properties.add(new String[] {used.substring(0, k), used.substring(k)});
        int number = -1;
        for (Node each : all(first)) {
            number += each.properties.size();
            if (each == place) {
                break;
            }
        }
        return number;
    }

    int close() {
        if (place == first) {
            return REFUSED_ARGUMENT;
        }
        place = place.around;
        return all(first).indexOf(place);
    }

    private static void put(ByteArrayOutputStream out, int x) {
        out.write(x >>> 24);
        out.write(x >>> 16);
        out.write(x >>> 8);
        out.write(x);
    }

    private static void put(ByteArrayOutputStream out, String text) {
        for (char c : text.toCharArray()) {
            out.write(c);
        }
    }

    private static void fill(ByteArrayOutputStream out) {
        while (out.size() % 4 != 0) {
            out.write(0);
        }
    }

    private static void put(ByteArrayOutputStream out, Node node, List<String> names) {
        put(out, 1);
        put(out, node.name + "\0");
        fill(out);
        for (String[] property : node.properties) {
            if (!names.contains(property[0])) {
                names.add(property[0]);
            }
            int at = 0;
            for (String name : names.subList(0, names.indexOf(property[0]))) {
                at += name.length() + 1;
            }
            put(out, 3);
            put(out, property[1].length());
            put(out, at);
            put(out, property[1]);
            fill(out);
        }
        for (Node each : node.nodes) {
            put(out, each, names);
        }
        put(out, 2);
    }

    int lay() {
        List<String> names = new ArrayList<>();
        ByteArrayOutputStream structure = new ByteArrayOutputStream();
        put(structure, first, names);
        put(structure, 9);
        ByteArrayOutputStream behind = new ByteArrayOutputStream();
        for (String name : names) {
            put(behind, name + "\0");
        }
        int all = 56 + structure.size() + behind.size();
        ByteArrayOutputStream out = new ByteArrayOutputStream();
        int[] head = {0xd00dfeed, all, 56, 56 + structure.size(), 40, 17, 16, 0, behind.size(),
            structure.size(), 0, 0, 0, 0};
        for (int x : head) {
            put(out, x);
        }
        out.writeBytes(structure.toByteArray());
        out.writeBytes(behind.toByteArray());
        laid = out.toByteArray();
        return laid.length;
    }

    int laid(int i) {
        return i < 0 || i >= laid.length ? REFUSED_INDEX : laid[i] & 255;
    }

    private String row;
    private String names;
    private int stop;
    private int at;
    private Node built;

    private long number(int place) {
        if (place + 4 > stop) {
            throw new Failed(stop);
        }
        return (long) row.charAt(place) << 24 | row.charAt(place + 1) << 16
                | row.charAt(place + 2) << 8 | row.charAt(place + 3);
    }

    private void must(boolean holds, int place) {
        if (!holds) {
            throw new Failed(place);
        }
    }

    int read() {
        row = usedTape();
        try {
            readHead();
            readStructure();
        } catch (Failed e) {
            place = first;
            return e.place;
        }
        first = built;
        place = first;
        return NONE;
    }

    private void readHead() {
        stop = row.length();
        must(number(0) == 3490578157L, 0);
        must(number(4) == row.length(), 4);
        must(number(8) == 56, 8);
        must(row.length() >= 40, row.length());
        long structure = number(36);
        must(number(12) == 56 + structure, 12);
        must(number(16) == 40, 16);
        must(number(20) == 17, 20);
        must(number(24) == 16, 24);
        must(number(28) == 0, 28);
        must(number(32) + number(12) == row.length(), 32);
        must((structure & 3) == 0, 36);
        for (int i = 40; i < 56; i++) {
            must(row.charAt(i) == 0, i);
        }
        stop = 56 + (int) structure;
        names = row.substring(stop);
    }

    private long kind() {
        while (number(at) == 4) {
            at += 4;
        }
        return number(at);
    }

    private void readStructure() {
        at = 56;
        must(kind() == 1, at);
        built = new Node("", null);
        at += 4;
        readZeros(4);
        readNode(built);
        must(kind() == 9, at);
        must(at + 4 == stop, at + 4);
    }

    private void readZeros(int count) {
        for (int i = 0; i < count; i++) {
            must(at < stop && row.charAt(at) == 0, Math.min(at, stop));
            at++;
        }
    }

    private void readNode(Node node) {
        while (kind() == 3) {
            must(propertyCount(built) < 512, at);
            readProperty(node);
        }
        while (kind() == 1) {
            must(all(built).size() < 128 && node.depth() < 16, at);
            at += 4;
            Node inner = new Node(readName(), node);
            node.nodes.add(inner);
            readNode(inner);
        }
        must(kind() == 2, at);
        at += 4;
    }

    private String readName() {
        int start = at;
        int room = 16384 - textLength(built);
        while (true) {
            must(at < stop, stop);
            char c = row.charAt(at);
            if (c == 0) {
                break;
            }
            must(isName(String.valueOf(c)) && at - start < 31 && at - start < room, at);
            at++;
        }
        must(at > start, at);
        String name = row.substring(start, at);
        readZeros(4 - name.length() % 4);
        return name;
    }

    private void readProperty(Node node) {
        int room = 16384 - textLength(built);
        long length = number(at + 4);
        must(at + 12 + length <= stop && length <= room, at + 4);
        long begins = number(at + 8);
        must(begins < names.length(), at + 8);
        String rest = names.substring((int) begins);
        must(rest.indexOf('\0') >= 0, at + 8);
        String name = rest.substring(0, rest.indexOf('\0'));
        must(isName(name) && length + name.length() <= room, at + 8);
        at += 12;
        node.properties.add(new String[] {name, row.substring(at, at + (int) length)});
        at += (int) length;
        readZeros(-(int) length & 3);
    }

    int nodes() {
        return all(first).size();
    }

    int properties() {
        return propertyCount(first);
    }

    private int firstProperty(Node node) {
        int before = 0;
        for (Node each : all(first)) {
            if (each == node) {
                break;
            }
            before += each.properties.size();
        }
        return before;
    }

    int node(int i, int what) {
        if (i < 0 || i >= nodes()) {
            return REFUSED_INDEX;
        }
        Node node = all(first).get(i);
        switch (what) {
            case 0: return all(first).indexOf(node.around);
            case 1: return node.properties.size();
            case 2: return node.properties.isEmpty() ? NONE : firstProperty(node);
            case 3: return node.name.length();
            default: return REFUSED_ARGUMENT;
        }
    }

    private Node owner(int i) {
        Node found = null;
        for (Node each : all(first)) {
            if (!each.properties.isEmpty() && firstProperty(each) <= i) {
                found = each;
            }
        }
        return found;
    }

    private String[] propertyAt(int i) {
        Node node = owner(i);
        return node.properties.get(i - firstProperty(node));
    }

    int about(int i, int what) {
        if (i < 0 || i >= properties()) {
            return REFUSED_INDEX;
        }
        switch (what) {
            case 0: return all(first).indexOf(owner(i));
            case 1: return propertyAt(i)[0].length();
            case 2: return propertyAt(i)[1].length();
            default: return REFUSED_ARGUMENT;
        }
    }

    private static int at(String text, int j) {
        return j < 0 || j >= text.length() ? REFUSED_INDEX : text.charAt(j);
    }

    int nodeName(int i, int j) {
        return i < 0 || i >= nodes() ? REFUSED_INDEX : at(all(first).get(i).name, j);
    }

    int name(int i, int j) {
        return i < 0 || i >= properties() ? REFUSED_INDEX : at(propertyAt(i)[0], j);
    }

    int value(int i, int j) {
        return i < 0 || i >= properties() ? REFUSED_INDEX : at(propertyAt(i)[1], j);
    }

    int find() {
        String path = usedTape();
        if (path.isEmpty() || path.equals("/")) {
            return 0;
        }
        if (!path.matches("(/[!-.0-~]{1,31})+")) {
            return NONE;
        }
        Node node = first;
        for (String name : path.substring(1).split("/")) {
            Node next = null;
            for (Node each : node.nodes) {
                if (next == null && each.name.equals(name)) {
                    next = each;
                }
            }
            if (next == null) {
                return NONE;
            }
            node = next;
        }
        return all(first).indexOf(node);
    }

    int seek(int i) {
        if (i < 0 || i >= nodes()) {
            return REFUSED_INDEX;
        }
        String name = usedTape();
        Node node = all(first).get(i);
        for (int j = 0; j < node.properties.size(); j++) {
            if (node.properties.get(j)[0].equals(name)) {
                return firstProperty(node) + j;
            }
        }
        return NONE;
    }
}
