import java.io.ByteArrayOutputStream;

/** A row put together part by part, right or wrong as a test wants it; its head is always right. */
final class Made {
    private final ByteArrayOutputStream structure = new ByteArrayOutputStream();

    Made number(long x) {
        for (int shift = 24; shift >= 0; shift -= 8) {
            structure.write((int) (x >>> shift));
        }
        return this;
    }

    Made raw(String text) {
        for (int i = 0; i < text.length(); i++) {
            structure.write(text.charAt(i));
        }
        return this;
    }

    Made fill() {
        while (structure.size() % 4 != 0) {
            structure.write(0);
        }
        return this;
    }

    Made node(String name) {
        return number(1).raw(name + "\0").fill();
    }

    Made property(long nameAt, String value) {
        return number(3).number(value.length()).number(nameAt).raw(value).fill();
    }

    Made close() {
        return number(2);
    }

    Made nothing() {
        return number(4);
    }

    Made last() {
        return number(9);
    }

    /** The place in the row at which the next part will stand. */
    int here() {
        return 56 + structure.size();
    }

    byte[] row(String names) {
        byte[] parts = structure.toByteArray();
        byte[] row = new byte[56 + parts.length + names.length()];
        int[] head = {0xd00dfeed, row.length, 56, 56 + parts.length, 40, 17, 16, 0,
            names.length(), parts.length};
        for (int i = 0; i < head.length; i++) {
            put(row, 4 * i, head[i]);
        }
        System.arraycopy(parts, 0, row, 56, parts.length);
        for (int i = 0; i < names.length(); i++) {
            row[56 + parts.length + i] = (byte) names.charAt(i);
        }
        return row;
    }

    byte[] row() {
        return row("");
    }

    static void put(byte[] row, int at, long x) {
        for (int i = 0; i < 4; i++) {
            row[at + i] = (byte) (x >>> 24 - 8 * i);
        }
    }
}
