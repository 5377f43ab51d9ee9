import java.util.Arrays;

/** Parts of files, as rows of bytes, and what comes of opening them. */
final class Parts {
    static final int[] START = {255, 216};
    static final int[] END = {255, 217};

    private Parts() {
    }

    static int[] join(int[]... parts) {
        int[] all = new int[0];
        for (int[] part : parts) {
            int at = all.length;
            all = Arrays.copyOf(all, at + part.length);
            System.arraycopy(part, 0, all, at, part.length);
        }
        return all;
    }

    static int[] segment(int code, int... contents) {
        return join(new int[] {255, code, contents.length + 2 >> 8, contents.length + 2 & 255}, contents);
    }

    /** A segment that tells a wrong length. */
    static int[] segmentOf(int length, int code, int... contents) {
        return join(new int[] {255, code, length >> 8, length & 255}, contents);
    }

    /** A table of which all steps are alike. */
    static int[] quantiser(int table, int step) {
        int[] contents = new int[65];
        Arrays.fill(contents, step);
        contents[0] = table;
        return segment(219, contents);
    }

    /** Words of 1, 2, 3, .. bits: 0, 10, 110, .. for these symbols. */
    static int[] words(int name, int... symbols) {
        return segment(196, table(name, symbols));
    }

    static int[] table(int name, int... symbols) {
        int[] contents = new int[17 + symbols.length];
        contents[0] = name;
        for (int k = 0; k < symbols.length; k++) {
            contents[1 + k] = 1;
            contents[17 + k] = symbols[k];
        }
        return contents;
    }

    /** components: name, 16 * H + V, table of each. */
    static int[] frame(int code, int height, int width, int... components) {
        return segment(code, join(new int[] {8, height >> 8, height & 255, width >> 8, width & 255,
            components.length / 3}, components));
    }

    /** components: name, tables of each. */
    static int[] scan(int first, int last, int both, int... components) {
        return segment(218, join(new int[] {components.length / 2}, components, new int[] {first, last, both}));
    }

    static int[] interval(int n) {
        return segment(221, n >> 8, n & 255);
    }

    static int[] lines(int n) {
        return segment(220, n >> 8, n & 255);
    }

    /** Texts of bits, filled up with 1s and told as bytes; a text R0 .. R7 is a restart. */
    static int[] data(String... texts) {
        StringBuilder bits = new StringBuilder();
        int[] all = new int[0];
        for (String text : texts) {
            if (text.startsWith("R")) {
                all = join(all, bytes(bits), new int[] {255, 208 + text.charAt(1) - '0'});
                bits.setLength(0);
            } else {
                bits.append(text.replace(" ", ""));
            }
        }
        return join(all, bytes(bits));
    }

    private static int[] bytes(StringBuilder bits) {
        while (bits.length() % 8 != 0) {
            bits.append('1');
        }
        int[] all = new int[0];
        for (int k = 0; k < bits.length(); k += 8) {
            int value = Integer.parseInt(bits.substring(k, k + 8), 2);
            all = join(all, value == 255 ? new int[] {255, 0} : new int[] {value});
        }
        return all;
    }

    /** The input is wiped, and these bytes come to it, eight by eight. */
    static void give(Subject x, int[]... parts) {
        int[] bytes = join(parts);
        x.wipeInput();
        for (int k = 0; k < bytes.length; k += 8) {
            int n = Math.min(8, bytes.length - k);
            long v = 0;
            for (int b = 0; b < n; b++) {
                v = v << 8 | bytes[k + b];
            }
            x.giveInput(v, n);
        }
    }

    /** A new object with the picture of a good file. */
    static Subject open(String what, int[]... parts) {
        Subject x = new Subject();
        give(x, parts);
        Check.due(what + ": openInput()", x.openInput(), 0);
        return x;
    }

    /** Opens the bytes on a new object: the fault and its place must be these. */
    static void due(String what, int fault, int place, int[]... parts) {
        Subject x = new Subject();
        give(x, parts);
        Check.due(what + ": openInput()", x.openInput(), fault);
        Check.due(what + ": statusOf(1)", x.statusOf(1), fault);
        Check.due(what + ": the place", x.statusOf(2), place);
        Check.due(what + ": opened", x.statusOf(6), fault == 0 ? 1 : 0);
        Check.due(what + ": picture", x.aboutPicture(0) != -1, fault == 0);
    }

    /** A file of any picture, written by the model. */
    static int[] fileOf(Model.Pic pic, int script) {
        Model model = new Model();
        model.picture = pic;
        if (model.saveAs(script, 0) < 0 || model.output.length > 8 * 450) {
            throw new IllegalStateException("so large a file can not be given in 512 calls");
        }
        return model.output;
    }

    /** A picture of components that are all H by V 1 by 1, with steps 1 and coefficients 0. */
    static Model.Pic plain(int width, int height, int many) {
        Model.Pic pic = new Model.Pic();
        pic.width = width;
        pic.height = height;
        pic.many = many;
        Arrays.fill(pic.h, 1);
        Arrays.fill(pic.v, 1);
        for (int[] steps : pic.steps) {
            Arrays.fill(steps, 1);
        }
        pic.makeBlocks();
        return pic;
    }

    /** All bytes of the output. */
    static int[] outputOf(Subject x) {
        int[] all = new int[x.statusOf(3)];
        for (int k = 0; k < all.length; k++) {
            all[k] = x.outputAt(k);
        }
        return all;
    }

    /** The contents of the nth segment of a code, from 0 on, as they were saved; none if there are not so many. */
    static int[] contents(int[] file, int code, int nth) {
        int at = 2;
        int found = 0;
        while (at + 3 < file.length && file[at] == 255) {
            int length = 256 * file[at + 2] + file[at + 3];
            if (file[at + 1] == code && found++ == nth) {
                return Arrays.copyOfRange(file, at + 4, at + 2 + length);
            }
            at = behind(file, at, length);
        }
        return new int[0];
    }

    /** The data behind the nth scan. */
    static int[] dataOf(int[] file, int nth) {
        int at = 2;
        int found = 0;
        while (at + 3 < file.length && file[at] == 255) {
            int length = 256 * file[at + 2] + file[at + 3];
            int next = behind(file, at, length);
            if (file[at + 1] == 218 && found++ == nth) {
                return Arrays.copyOfRange(file, at + 2 + length, next);
            }
            at = next;
        }
        return new int[0];
    }

    /** Where the next marker is behind a segment, and its data if it is a scan's. */
    private static int behind(int[] file, int at, int length) {
        int next = at + 2 + length;
        while (file[at + 1] == 218 && next + 1 < file.length
                && (file[next] != 255 || file[next + 1] == 0 || file[next + 1] >= 208 && file[next + 1] <= 215)) {
            next++;
        }
        return next;
    }

    static void same(String what, int[] got, int... want) {
        Check.due(what + " " + Arrays.toString(got) + ", due is " + Arrays.toString(want), Arrays.equals(got, want), true);
    }

    /** Bytes of the output from one on. */
    static void output(String what, Subject x, int from, int... want) {
        for (int k = 0; k < want.length; k++) {
            Check.due(what + ", byte " + (from + k), x.outputAt(from + k), want[k]);
        }
    }
}
