import java.util.Arrays;

/**
 * A tree that describes a machine: nodes and properties with names and values, put together one
 * by one, laid down as a row of bytes, read again from any such row, and asked by numbers and by
 * paths.
 */
public final class TreePress {
    public static final int NONE = -1;

    private static final int TAPE_LIMIT = 65536;
    private static final int FED_AT_ONCE = 20;
    private static final int NODE_LIMIT = 128;
    private static final int PROPERTY_LIMIT = 512;
    private static final int TEXT_LIMIT = 16384;
    private static final int DEPTH_LIMIT = 16;
    private static final int NAME_LIMIT = 31;

    private static final int LOWEST_IN_NAME = 33;
    private static final int HIGHEST_IN_NAME = 126;
    private static final int SLASH = 47;

    private static final int WORD = 4;
    private static final int HEAD_NUMBERS = 10;
    private static final int ZEROS_AT = HEAD_NUMBERS * WORD;
    private static final int STRUCTURE_AT = 56;
    private static final int NAMES_AT_PLACE = 3 * WORD;
    private static final int STRUCTURE_LENGTH_PLACE = 9 * WORD;
    private static final long MAGIC = 3490578157L;
    private static final int VERSION = 17;
    private static final int OLDEST_VERSION = 16;

    private static final int NODE_BEGINS = 1;
    private static final int NODE_ENDS = 2;
    private static final int PROPERTY = 3;
    private static final int NOTHING = 4;
    private static final int STRUCTURE_ENDS = 9;

    private static final int FIRST_CAPACITY = 16;

    private final Row tape;
    private final Row laidDown;
    private final Reader reader;
    private Tree tree;
    private Tree spare;

    public TreePress() {
        tape = new Row();
        laidDown = new Row();
        reader = new Reader();
        tree = new Tree();
        spare = new Tree();
    }

    public int feed(int a, int b, int c, int d, int e) throws IllegalStateException {
        if (tape.length() > TAPE_LIMIT - FED_AT_ONCE) {
            throw new IllegalStateException("the tape would have too many bytes");
        }
        tape.addNumber(a);
        tape.addNumber(b);
        tape.addNumber(c);
        tape.addNumber(d);
        tape.addNumber(e);
        return tape.length();
    }

    public void end(int n) throws IllegalArgumentException {
        if (n < 0 || n > tape.length()) {
            throw new IllegalArgumentException("the tape has no such place");
        }
        tape.cut(n);
    }

    public void clear() {
        tree.wipe();
    }

    public int open() throws IllegalArgumentException, IllegalStateException {
        int length = tape.length();
        if (!tape.hasName(0, length)) {
            throw new IllegalArgumentException("the tape is no name");
        }
        if (!tree.takesNode() || length > tree.room()) {
            throw new IllegalStateException("the tree would be too big");
        }
        int number = tree.addNode(tape, 0, length);
        tape.cut(0);
        return number;
    }

    public int property(int k) throws IllegalArgumentException, IllegalStateException {
        int length = tape.length();
        if (k < 0 || k > length || !tape.hasName(0, k)) {
            throw new IllegalArgumentException("these bytes are no name");
        }
        if (tree.placeHasNodes()) {
            throw new IllegalArgumentException("the place has nodes");
        }
        if (!tree.takesProperty() || length > tree.room()) {
            throw new IllegalStateException("the tree would be too big");
        }
        int number = tree.addProperty(tape, 0, k, k, length - k);
        tape.cut(0);
        return number;
    }

    public int close() throws IllegalArgumentException {
        if (tree.placeIsFirst()) {
            throw new IllegalArgumentException("the place is the first node");
        }
        return tree.leavePlace();
    }

    public int lay() {
        tree.layInto(laidDown);
        return laidDown.length();
    }

    public int laid(int i) throws IndexOutOfBoundsException {
        if (i < 0 || i >= laidDown.length()) {
            throw new IndexOutOfBoundsException("no such byte was laid down");
        }
        return laidDown.at(i);
    }

    public int read() {
        int failed = reader.failureOfHead(tape);
        if (failed == NONE) {
            failed = reader.failureOfStructure(tape, spare);
        }
        tape.cut(0);
        if (failed == NONE) {
            swapTrees();
        }
        // The document says so of every read(), not only of one that does not fail.
        tree.makeFirstThePlace();
        return failed;
    }

    public int nodes() {
        return tree.countOfNodes();
    }

    public int properties() {
        return tree.countOfProperties();
    }

    public int node(int i, int what) throws IndexOutOfBoundsException, IllegalArgumentException {
        refuseWrongNode(i);
        switch (what) {
            case 0:
                return tree.parentOf(i);
            case 1:
                return tree.propertiesOf(i);
            case 2:
                return tree.propertiesOf(i) == 0 ? NONE : tree.firstPropertyOf(i);
            case 3:
                return tree.lengthOfNodeName(i);
            default:
                throw new IllegalArgumentException("nothing of a node has that number");
        }
    }

    public int about(int i, int what) throws IndexOutOfBoundsException, IllegalArgumentException {
        refuseWrongProperty(i);
        switch (what) {
            case 0:
                return tree.ownerOf(i);
            case 1:
                return tree.lengthOfName(i);
            case 2:
                return tree.lengthOfValue(i);
            default:
                throw new IllegalArgumentException("nothing of a property has that number");
        }
    }

    public int nodeName(int i, int j) throws IndexOutOfBoundsException {
        refuseWrongNode(i);
        refuseWrongByte(j, tree.lengthOfNodeName(i));
        return tree.byteOfNodeName(i, j);
    }

    public int name(int i, int j) throws IndexOutOfBoundsException {
        refuseWrongProperty(i);
        refuseWrongByte(j, tree.lengthOfName(i));
        return tree.byteOfName(i, j);
    }

    public int value(int i, int j) throws IndexOutOfBoundsException {
        refuseWrongProperty(i);
        refuseWrongByte(j, tree.lengthOfValue(i));
        return tree.byteOfValue(i, j);
    }

    public int find() {
        int found = tree.nodeOnPath(tape);
        tape.cut(0);
        return found;
    }

    public int seek(int i) throws IndexOutOfBoundsException {
        refuseWrongNode(i);
        int found = tree.propertyNamed(i, tape);
        tape.cut(0);
        return found;
    }

    private void swapTrees() {
        Tree former = tree;
        tree = spare;
        spare = former;
    }

    private void refuseWrongNode(int i) {
        if (i < 0 || i >= tree.countOfNodes()) {
            throw new IndexOutOfBoundsException("there is no such node");
        }
    }

    private void refuseWrongProperty(int i) {
        if (i < 0 || i >= tree.countOfProperties()) {
            throw new IndexOutOfBoundsException("there is no such property");
        }
    }

    private static void refuseWrongByte(int j, int length) {
        if (j < 0 || j >= length) {
            throw new IndexOutOfBoundsException("there is no such byte");
        }
    }

    private static boolean mayStandInName(int b) {
        return b >= LOWEST_IN_NAME && b <= HIGHEST_IN_NAME && b != SLASH;
    }

    private static int filledUp(int length) {
        return (length + WORD - 1) / WORD * WORD;
    }

    /**
     * A row of numbers, or of bytes 0 .. 255, that grows as it is used and is never given back.
     * Every index is looked at here, so that no other class touches an array.
     */
    private static final class Row {
        private int[] cells;
        private int length;

        Row() {
            cells = new int[FIRST_CAPACITY];
            length = 0;
        }

        int length() {
            return length;
        }

        int at(int i) {
            return i >= 0 && i < length && i < cells.length ? cells[i] : 0;
        }

        void put(int i, int x) {
            if (i >= 0 && i < length && i < cells.length) {
                cells[i] = x;
            }
        }

        // The longest row that the document allows is the tape, so nothing is lost at this limit.
        void add(int x) {
            if (length >= cells.length && cells.length < TAPE_LIMIT) {
                cells = Arrays.copyOf(cells, 2 * cells.length);
            }
            if (length < cells.length) {
                cells[length] = x;
                length++;
            }
        }

        void cut(int n) {
            if (n >= 0 && n < length) {
                length = n;
            }
        }

        void addPart(Row from, int start, int count) {
            for (int i = 0; i < count; i++) {
                add(from.at(start + i));
            }
        }

        void addNumber(int x) {
            for (int shift = 24; shift >= 0; shift -= 8) {
                add(x >>> shift & 255);
            }
        }

        void addZeros(int count) {
            for (int i = 0; i < count; i++) {
                add(0);
            }
        }

        void putNumber(int place, int x) {
            for (int i = 0; i < WORD; i++) {
                put(place + i, x >>> 24 - 8 * i & 255);
            }
        }

        // A long, because a number of the row has no sign and its highest bit may be set.
        long numberAt(int place) {
            long x = 0;
            for (int i = 0; i < WORD; i++) {
                x = x << 8 | at(place + i);
            }
            return x;
        }

        boolean hasName(int start, int count) {
            if (count < 1 || count > NAME_LIMIT) {
                return false;
            }
            return endOfNameBytes(start, start + count) == start + count;
        }

        int endOfNameBytes(int start, int stop) {
            for (int i = start; i < stop; i++) {
                if (i >= length || !mayStandInName(at(i))) {
                    return i;
                }
            }
            return stop;
        }

        boolean hasPart(int start, Row other, int otherStart, int count) {
            for (int i = 0; i < count; i++) {
                if (at(start + i) != other.at(otherStart + i)) {
                    return false;
                }
            }
            return true;
        }
    }

    /**
     * The nodes and properties. The place is always the last node or one around it, so that
     * whatever is added has the highest number and no number ever changes.
     */
    private static final class Tree {
        private final Row text;
        private final Row nodeParents;
        private final Row nodeDepths;
        private final Row nodeNameStarts;
        private final Row nodeNameLengths;
        private final Row nodeFirstProperties;
        private final Row nodePropertyCounts;
        private final Row owners;
        private final Row nameStarts;
        private final Row nameLengths;
        private final Row valueLengths;
        private final Row nameOffsets;
        private int laidNamesLength;
        private int place;

        Tree() {
            text = new Row();
            nodeParents = new Row();
            nodeDepths = new Row();
            nodeNameStarts = new Row();
            nodeNameLengths = new Row();
            nodeFirstProperties = new Row();
            nodePropertyCounts = new Row();
            owners = new Row();
            nameStarts = new Row();
            nameLengths = new Row();
            valueLengths = new Row();
            nameOffsets = new Row();
            wipe();
        }

        void wipe() {
            text.cut(0);
            nodeParents.cut(0);
            nodeDepths.cut(0);
            nodeNameStarts.cut(0);
            nodeNameLengths.cut(0);
            nodeFirstProperties.cut(0);
            nodePropertyCounts.cut(0);
            owners.cut(0);
            nameStarts.cut(0);
            nameLengths.cut(0);
            valueLengths.cut(0);
            nameOffsets.cut(0);
            laidNamesLength = 0;
            place = NONE;
            addNode(text, 0, 0);
        }

        int countOfNodes() {
            return nodeParents.length();
        }

        int countOfProperties() {
            return owners.length();
        }

        int parentOf(int node) {
            return nodeParents.at(node);
        }

        int propertiesOf(int node) {
            return nodePropertyCounts.at(node);
        }

        int firstPropertyOf(int node) {
            return nodeFirstProperties.at(node);
        }

        int lengthOfNodeName(int node) {
            return nodeNameLengths.at(node);
        }

        int byteOfNodeName(int node, int j) {
            return text.at(nodeNameStarts.at(node) + j);
        }

        int ownerOf(int property) {
            return owners.at(property);
        }

        int lengthOfName(int property) {
            return nameLengths.at(property);
        }

        int byteOfName(int property, int j) {
            return text.at(nameStarts.at(property) + j);
        }

        int lengthOfValue(int property) {
            return valueLengths.at(property);
        }

        int byteOfValue(int property, int j) {
            return text.at(startOfValue(property) + j);
        }

        private int startOfValue(int property) {
            return nameStarts.at(property) + nameLengths.at(property);
        }

        int room() {
            return TEXT_LIMIT - text.length();
        }

        boolean takesNode() {
            return countOfNodes() < NODE_LIMIT && nodeDepths.at(place) < DEPTH_LIMIT;
        }

        boolean takesProperty() {
            return countOfProperties() < PROPERTY_LIMIT;
        }

        // Only the last node has nothing behind it, and what is behind the place is within it.
        boolean placeHasNodes() {
            return place != countOfNodes() - 1;
        }

        boolean placeIsFirst() {
            return place == 0;
        }

        void makeFirstThePlace() {
            place = 0;
        }

        int leavePlace() {
            place = parentOf(place);
            return place;
        }

        int addNode(Row from, int start, int count) {
            int number = countOfNodes();
            nodeParents.add(place);
            nodeDepths.add(place == NONE ? 1 : nodeDepths.at(place) + 1);
            nodeNameStarts.add(text.length());
            nodeNameLengths.add(count);
            nodeFirstProperties.add(countOfProperties());
            nodePropertyCounts.add(0);
            text.addPart(from, start, count);
            place = number;
            return number;
        }

        // Where its name will be laid is settled here, because no later property can change that.
        int addProperty(Row from, int nameStart, int nameCount, int valueStart, int valueCount) {
            int number = countOfProperties();
            int alike = firstNamed(0, number, from, nameStart, nameCount);
            nameOffsets.add(alike == NONE ? laidNamesLength : nameOffsets.at(alike));
            if (alike == NONE) {
                laidNamesLength += nameCount + 1;
            }
            owners.add(place);
            nodePropertyCounts.put(place, propertiesOf(place) + 1);
            nameStarts.add(text.length());
            nameLengths.add(nameCount);
            valueLengths.add(valueCount);
            text.addPart(from, nameStart, nameCount);
            text.addPart(from, valueStart, valueCount);
            return number;
        }

        private int firstNamed(int first, int stop, Row from, int start, int count) {
            for (int i = first; i < stop; i++) {
                if (lengthOfName(i) == count && text.hasPart(nameStarts.at(i), from, start, count)) {
                    return i;
                }
            }
            return NONE;
        }

        int propertyNamed(int node, Row wanted) {
            int first = firstPropertyOf(node);
            return firstNamed(first, first + propertiesOf(node), wanted, 0, wanted.length());
        }

        int nodeOnPath(Row path) {
            int length = path.length();
            if (length == 1 && path.at(0) == SLASH) {
                return 0;
            }
            int node = 0;
            int at = 0;
            for (int depth = 0; depth < DEPTH_LIMIT && at < length; depth++) {
                if (path.at(at) != SLASH) {
                    return NONE;
                }
                int stop = path.endOfNameBytes(at + 1, length);
                node = firstWithin(node, path, at + 1, stop - at - 1);
                if (node == NONE) {
                    return NONE;
                }
                at = stop;
            }
            return at < length ? NONE : node;
        }

        private int firstWithin(int around, Row from, int start, int count) {
            for (int i = around + 1; i < countOfNodes(); i++) {
                if (parentOf(i) == around && lengthOfNodeName(i) == count
                        && text.hasPart(nodeNameStarts.at(i), from, start, count)) {
                    return i;
                }
            }
            return NONE;
        }

        void layInto(Row out) {
            out.cut(0);
            out.addZeros(STRUCTURE_AT);
            for (int i = 0; i < countOfNodes(); i++) {
                layNode(out, i);
                layEndsBehind(out, i);
            }
            out.addNumber(STRUCTURE_ENDS);
            int namesAt = out.length();
            layNames(out);
            layHead(out, namesAt);
        }

        private void layNode(Row out, int node) {
            int length = lengthOfNodeName(node);
            out.addNumber(NODE_BEGINS);
            out.addPart(text, nodeNameStarts.at(node), length);
            out.addZeros(filledUp(length + 1) - length);
            int first = firstPropertyOf(node);
            int stop = first + propertiesOf(node);
            for (int i = first; i < stop; i++) {
                layProperty(out, i);
            }
        }

        private void layProperty(Row out, int property) {
            int length = lengthOfValue(property);
            out.addNumber(PROPERTY);
            out.addNumber(length);
            out.addNumber(nameOffsets.at(property));
            out.addPart(text, startOfValue(property), length);
            out.addZeros(filledUp(length) - length);
        }

        // The next node's depth tells how many nodes have ended before it begins.
        private void layEndsBehind(Row out, int node) {
            int next = node + 1;
            int depthBehind = next < countOfNodes() ? nodeDepths.at(next) : 1;
            for (int depth = nodeDepths.at(node); depth >= depthBehind; depth--) {
                out.addNumber(NODE_ENDS);
            }
        }

        // A name that came before has an offset below what is laid already.
        private void layNames(Row out) {
            int done = 0;
            for (int i = 0; i < countOfProperties(); i++) {
                if (nameOffsets.at(i) == done) {
                    out.addPart(text, nameStarts.at(i), lengthOfName(i));
                    out.add(0);
                    done += lengthOfName(i) + 1;
                }
            }
        }

        private void layHead(Row out, int namesAt) {
            out.putNumber(0, (int) MAGIC);
            out.putNumber(WORD, out.length());
            out.putNumber(2 * WORD, STRUCTURE_AT);
            out.putNumber(NAMES_AT_PLACE, namesAt);
            out.putNumber(4 * WORD, ZEROS_AT);
            out.putNumber(5 * WORD, VERSION);
            out.putNumber(6 * WORD, OLDEST_VERSION);
            out.putNumber(7 * WORD, 0);
            out.putNumber(8 * WORD, out.length() - namesAt);
            out.putNumber(STRUCTURE_LENGTH_PLACE, namesAt - STRUCTURE_AT);
        }
    }

    /**
     * Goes once through a row and builds the tree on its way. Its methods answer the place at
     * which the row fails, or NONE.
     */
    private static final class Reader {
        private int at;
        private int end;
        private int depth;
        private boolean begun;

        int failureOfHead(Row row) {
            int length = row.length();
            for (int i = 0; i < HEAD_NUMBERS; i++) {
                int place = i * WORD;
                // Where the names begin can't be judged without the last number of the head.
                int needed = place == NAMES_AT_PLACE ? ZEROS_AT : place + WORD;
                if (length < needed) {
                    return length;
                }
                if (!isRightInHead(row, i)) {
                    return place;
                }
            }
            end = Math.min(STRUCTURE_AT, length);
            return failureOfZeros(row, ZEROS_AT, STRUCTURE_AT);
        }

        private static boolean isRightInHead(Row row, int i) {
            long x = row.numberAt(i * WORD);
            switch (i) {
                case 0:
                    return x == MAGIC;
                case 1:
                    return x == row.length();
                case 2:
                    return x == STRUCTURE_AT;
                case 3:
                    return x == STRUCTURE_AT + row.numberAt(STRUCTURE_LENGTH_PLACE);
                case 4:
                    return x == ZEROS_AT;
                case 5:
                    return x == VERSION;
                case 6:
                    return x == OLDEST_VERSION;
                case 7:
                    return x == 0;
                case 8:
                    return row.numberAt(NAMES_AT_PLACE) + x == row.length();
                default:
                    return x % WORD == 0;
            }
        }

        int failureOfStructure(Row row, Tree tree) {
            tree.wipe();
            at = STRUCTURE_AT;
            end = (int) Math.min(row.numberAt(NAMES_AT_PLACE), row.length());
            depth = 0;
            begun = false;
            for (int i = 0; i < TAPE_LIMIT && at + WORD <= end; i++) {
                long kind = row.numberAt(at);
                int failed = at;
                if (kind == NOTHING) {
                    failed = passOver();
                } else if (!begun) {
                    failed = kind == NODE_BEGINS ? failureOfFirstNode(row) : at;
                } else if (depth == 0) {
                    return kind == STRUCTURE_ENDS ? failureBehindLast() : at;
                } else if (kind == NODE_BEGINS) {
                    failed = failureOfNode(row, tree);
                } else if (kind == PROPERTY) {
                    failed = failureOfProperty(row, tree);
                } else if (kind == NODE_ENDS) {
                    failed = leaveNode(tree);
                }
                if (failed != NONE) {
                    return failed;
                }
            }
            return end;
        }

        private int passOver() {
            at += WORD;
            return NONE;
        }

        private int failureBehindLast() {
            int behind = at + WORD;
            return behind == end ? NONE : behind;
        }

        private int failureOfFirstNode(Row row) {
            begun = true;
            depth = 1;
            int nameStart = at + WORD;
            return failureOfZeros(row, nameStart, nameStart + filledUp(1));
        }

        // Whatever stops the name but a byte 0 is one that can't be there: no byte of a name, or
        // one too many.
        private int failureOfNode(Row row, Tree tree) {
            if (!tree.takesNode()) {
                return at;
            }
            int start = at + WORD;
            int most = Math.min(NAME_LIMIT, tree.room());
            int stop = row.endOfNameBytes(start, Math.min(start + most, end));
            if (stop >= end) {
                return end;
            }
            if (stop == start || row.at(stop) != 0) {
                return stop;
            }
            tree.addNode(row, start, stop - start);
            depth++;
            return failureOfZeros(row, stop, start + filledUp(stop - start + 1));
        }

        private int failureOfProperty(Row row, Tree tree) {
            int lengthPlace = at + WORD;
            int namePlace = lengthPlace + WORD;
            int start = namePlace + WORD;
            if (!tree.takesProperty() || tree.placeHasNodes()) {
                return at;
            }
            if (namePlace > end) {
                return end;
            }
            long length = row.numberAt(lengthPlace);
            if (length > end - start || length > tree.room()) {
                return lengthPlace;
            }
            int count = (int) length;
            long nameStart = end + row.numberAt(namePlace);
            int nameCount = lengthOfNameAt(row, nameStart);
            if (nameCount == 0 || nameCount > tree.room() - count) {
                return namePlace;
            }
            tree.addProperty(row, (int) nameStart, nameCount, start, count);
            return failureOfZeros(row, start + count, start + filledUp(count));
        }

        // 0 when there is no name with a byte 0 behind it.
        private static int lengthOfNameAt(Row row, long place) {
            if (place >= row.length()) {
                return 0;
            }
            int start = (int) place;
            int stop = row.endOfNameBytes(start, start + NAME_LIMIT);
            return stop < row.length() && row.at(stop) == 0 ? stop - start : 0;
        }

        // The first node is in no other that could be the place.
        private int leaveNode(Tree tree) {
            depth--;
            if (depth > 0) {
                tree.leavePlace();
            }
            return passOver();
        }

        private int failureOfZeros(Row row, int from, int stop) {
            for (int i = from; i < stop; i++) {
                if (i >= end) {
                    return end;
                }
                if (row.at(i) != 0) {
                    return i;
                }
            }
            at = stop;
            return NONE;
        }
    }
}
