import java.util.Arrays;

/** Parts of files, as rows of bytes. */
final class Parts {
    static final int[] START = {255, 216};
    static final int[] END = {255, 217};

    private Parts() {
    }

    static int[] join(int[]... parts) {
        int[] all = new int[0];
        for (int[] part : parts) {
            int at = all.length;
            all = Arrays.copyOf(all, at + part.length);
            System.arraycopy(part, 0, all, at, part.length);
        }
        return all;
    }

    static int[] segment(int code, int... contents) {
        return join(new int[] {255, code, contents.length + 2 >> 8, contents.length + 2 & 255}, contents);
    }

    /** A segment that tells a wrong length. */
    static int[] segmentOf(int length, int code, int... contents) {
        return join(new int[] {255, code, length >> 8, length & 255}, contents);
    }

    /** A table of which all steps are alike. */
    static int[] quantiser(int table, int step) {
        int[] contents = new int[65];
        Arrays.fill(contents, step);
        contents[0] = table;
        return segment(219, contents);
    }

    /** Words of 1, 2, 3, .. bits: 0, 10, 110, .. for these symbols. */
    static int[] words(int name, int... symbols) {
        return segment(196, table(name, symbols));
    }

    static int[] table(int name, int... symbols) {
        int[] contents = new int[17 + symbols.length];
        contents[0] = name;
        for (int k = 0; k < symbols.length; k++) {
            contents[1 + k] = 1;
            contents[17 + k] = symbols[k];
        }
        return contents;
    }

    /** components: name, 16 * H + V, table of each. */
    static int[] frame(int code, int height, int width, int... components) {
        return segment(code, join(new int[] {8, height >> 8, height & 255, width >> 8, width & 255,
            components.length / 3}, components));
    }

    /** components: name, tables of each. */
    static int[] scan(int first, int last, int both, int... components) {
        return segment(218, join(new int[] {components.length / 2}, components, new int[] {first, last, both}));
    }

    static int[] interval(int n) {
        return segment(221, n >> 8, n & 255);
    }

    static int[] lines(int n) {
        return segment(220, n >> 8, n & 255);
    }

    /** Texts of bits, filled up with 1s and told as bytes; a text R0 .. R7 is a restart. */
    static int[] data(String... texts) {
        StringBuilder bits = new StringBuilder();
        int[] all = new int[0];
        for (String text : texts) {
            if (text.startsWith("R")) {
                all = join(all, bytes(bits), new int[] {255, 208 + text.charAt(1) - '0'});
                bits.setLength(0);
            } else {
                bits.append(text.replace(" ", ""));
            }
        }
        return join(all, bytes(bits));
    }

    private static int[] bytes(StringBuilder bits) {
        while (bits.length() % 8 != 0) {
            bits.append('1');
        }
        int[] all = new int[0];
        for (int k = 0; k < bits.length(); k += 8) {
            int value = Integer.parseInt(bits.substring(k, k + 8), 2);
            all = join(all, value == 255 ? new int[] {255, 0} : new int[] {value});
        }
        return all;
    }

    static void give(WavePictures x, int[] bytes) {
        x.wipeInput();
        for (int b : bytes) {
            x.giveInput(b, 1);
        }
    }

    /** Opens the bytes on a new object: the fault and its place must be these. */
    static void due(String what, int fault, int place, int[]... parts) {
        WavePictures x = new WavePictures();
        give(x, join(parts));
        Check.due(what + ": openInput()", x.openInput(), fault);
        Check.due(what + ": statusOf(1)", x.statusOf(1), fault);
        Check.due(what + ": the place", x.statusOf(2), place);
        Check.due(what + ": opened", x.statusOf(6), fault == 0 ? 1 : 0);
        Check.due(what + ": picture", x.aboutPicture(0) != -1, fault == 0);
    }
}
