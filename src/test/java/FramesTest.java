import java.util.Arrays;

/** Promises 5 and 19: frames, their lines, and the blocks that come of them, with faults 4, 6 and 9. */
public final class FramesTest {
    private static final int[] S = Tiny.S;
    private static final int[] E = Tiny.E;

    public static void main(String[] args) {
        kinds();
        heightAndWidth();
        components();
        namesAndShapes();
        linesOfAFile();
        linesOutOfPlace();
        blocks();
        ownBlocks();
        tooManyBlocks();
        Check.end();
    }

    private static int[] row(int... bytes) {
        return bytes;
    }

    /** The place of a frame's byte, if the frame comes first. */
    private static void wrong(String what, int at, int... contents) {
        Parts.due(what, 6, 6 + at, S, Parts.segment(192, contents));
        Parts.due(what + ", progressive", 6, 6 + at, S, Parts.segment(194, contents));
        Parts.due(what + ", all else not there", 6, 6 + at, S, row(255, 192, 0, 40), Arrays.copyOf(contents, at + 1));
    }

    private static void right(String what, int... contents) {
        Parts.due(what, 1, 6 + contents.length, S, Parts.segment(192, contents));
        Parts.due(what + ", progressive", 1, 6 + contents.length, S, Parts.segment(194, contents));
    }

    private static void kinds() {
        Check.sentence("192 or 194 FRAME, sequential or progressive, once: a byte 8;");
        for (int code : row(191, 193, 195, 197, 198, 199, 200, 201, 202, 203)) {
            Parts.due("frame " + code, 4, 3, S, Parts.frame(code, 8, 8, 1, 17, 0));
        }
        for (int b : row(0, 7, 9, 12, 16, 255)) {
            wrong("byte " + b, 0, b, 0, 8, 0, 8, 1, 1, 17, 0);
        }
        right("byte 8", 8, 0, 8, 0, 8, 1, 1, 17, 0);
        // Sequential: whole scans alone; progressive: none of these.
        Parts.due("192", 0, -1, Tiny.TABLES, Tiny.FRAME, Tiny.SCAN, Tiny.BITS, E);
        Parts.due("192 with a direct scan", 6, Tiny.HEAD + 13 + 8, Tiny.TABLES, Tiny.FRAME, Tiny.DIRECT, Tiny.BIT, E);
        Parts.due("194", 0, -1, Tiny.TABLES, Tiny.PROGRESSIVE, Tiny.DIRECT, Tiny.BIT, E);
        Parts.due("194 with a whole scan", 6, Tiny.HEAD + 13 + 8, Tiny.TABLES, Tiny.PROGRESSIVE, Tiny.SCAN, Tiny.BITS, E);
    }

    private static void heightAndWidth() {
        Check.sentence("two bytes HEIGHT 0 .. 64; two WIDTH 1 .. 64;");
        for (int height : row(65, 66, 255, 256, 257, 320, 65535)) {
            wrong("height " + height, 2, 8, height >> 8, height & 255, 0, 8, 1, 1, 17, 0);
        }
        for (int width : row(0, 65, 66, 255, 256, 257, 320, 65535)) {
            wrong("width " + width, 4, 8, 0, 8, width >> 8, width & 255, 1, 1, 17, 0);
        }
        for (int side : row(1, 2, 63, 64)) {
            right("height " + side, 8, 0, side, 0, 8, 1, 1, 17, 0);
            right("width " + side, 8, 0, 8, 0, side, 1, 1, 17, 0);
        }
        right("height 0", 8, 0, 0, 0, 8, 1, 1, 17, 0);
        int[][] sizes = {{1, 1}, {64, 1}, {1, 64}, {64, 64}, {63, 57}};
        for (int[] size : sizes) {
            int blocks = (size[0] + 7) / 8 * ((size[1] + 7) / 8);
            Subject x = Parts.open("a picture of this size", Tiny.TABLES, Parts.frame(192, size[1], size[0], 1, 17, 0),
                Tiny.SCAN, Parts.data("00".repeat(blocks)), E);
            Check.due("width", x.aboutPicture(0), size[0]);
            Check.due("height", x.aboutPicture(1), size[1]);
            Check.due("blocks", x.aboutPicture(3), blocks);
        }
    }

    private static void components() {
        Check.sentence("a byte, 1 .. 4 COMPONENTS; for each:");
        for (int many : row(0, 5, 6, 255)) {
            wrong("components " + many, 5, 8, 0, 8, 0, 8, many, 1, 17, 0, 2, 17, 0, 3, 17, 0, 4, 17, 0, 5, 17, 0);
        }
        int[] names = {1, 17, 0, 2, 17, 0, 3, 17, 0, 4, 17, 0};
        int[] members = {1, 0, 2, 0, 3, 0, 4, 0};
        for (int many = 1; many <= 4; many++) {
            Subject x = Parts.open(many + " components", Tiny.TABLES, Parts.frame(192, 8, 8, Arrays.copyOf(names, 3 * many)),
                Parts.scan(0, 63, 0, Arrays.copyOf(members, 2 * many)), Parts.data("00".repeat(many)), E);
            Check.due("components", x.aboutPicture(2), many);
            Check.due("blocks", x.aboutPicture(3), many);
            Parts.due("one more than told", 5, 4, S,
                Parts.segment(192, Parts.join(row(8, 0, 8, 0, 8, many), names, row(5, 17, 0))));
        }
    }

    private static void namesAndShapes() {
        Check.sentence("a byte, its name (no two alike); a byte 16 * H + V (each 1 or 2); "
            + "a byte 0 .. 3, its table of QUANTISERS.");
        for (int first = 0; first < 3; first++) {
            for (int second = first + 1; second < 4; second++) {
                int[] contents = {8, 0, 8, 0, 8, 4, 9, 17, 0, 8, 17, 0, 7, 17, 0, 6, 17, 0};
                contents[6 + 3 * second] = contents[6 + 3 * first];
                wrong("names " + first + " and " + second + " alike", 6 + 3 * second, contents);
            }
        }
        right("names 0, 255, 254, 1", 8, 0, 8, 0, 8, 4, 0, 17, 0, 255, 17, 0, 254, 17, 0, 1, 17, 0);
        Parts.due("names 255 and 0", 0, -1, Tiny.TABLES, Parts.frame(192, 8, 8, 255, 17, 0, 0, 17, 0),
            Parts.scan(0, 63, 0, 255, 0, 0, 0), Parts.data("0000"), E);
        for (int shape = 0; shape < 256; shape++) {
            if (shape == 0x11 || shape == 0x12 || shape == 0x21 || shape == 0x22) {
                right("shape " + shape, 8, 0, 8, 0, 8, 1, 1, shape, 0);
                Subject x = Parts.open("shape " + shape, Tiny.TABLES, Parts.frame(192, 8, 8, 1, shape, 0), Tiny.SCAN,
                    Tiny.BITS, E);
                Check.due("H", x.aboutPicture(8), shape >> 4);
                Check.due("V", x.aboutPicture(9), shape & 15);
            } else {
                wrong("shape " + shape, 7, 8, 0, 8, 0, 8, 1, 1, shape, 0);
                wrong("shape " + shape + " of the fourth", 16, 8, 0, 8, 0, 8, 4, 1, 17, 0, 2, 18, 0, 3, 33, 0, 4, shape, 0);
            }
        }
        for (int table = 0; table < 4; table++) {
            right("table " + table, 8, 0, 8, 0, 8, 1, 1, 17, table);
        }
        for (int table : row(4, 5, 16, 19, 255)) {
            wrong("table " + table, 8, 8, 0, 8, 0, 8, 1, 1, 17, table);
            wrong("table " + table + " of the second", 11, 8, 0, 8, 0, 8, 2, 1, 17, 3, 2, 17, table);
        }
        Check.sentence("6: a byte of the CONTENTS that is none that can be there; the last byte of numbers of two bytes;");
        wrong("a name ahead of a shape", 9, 8, 0, 8, 0, 8, 2, 1, 17, 0, 1, 0, 9);
        wrong("a shape ahead of a table", 7, 8, 0, 8, 0, 8, 1, 1, 0, 9);
        wrong("a height ahead of a width", 2, 8, 0, 65, 0, 0, 0);
    }

    private static void linesOfAFile() {
        Check.sentence("220 LINES: two bytes 1 .. 64: just behind the DATA of the first SCAN, if the FRAME's HEIGHT is 0 "
            + "(it must be there then, and nowhere else): the HEIGHT.");
        int[] frame = Parts.frame(192, 0, 8, 1, 17, 0, 2, 17, 0);
        int[] head = Parts.join(Tiny.TABLES, frame, Tiny.SCAN);
        for (int lines : row(1, 2, 7, 8, 9, 63, 64)) {
            String blocks = "00".repeat((lines + 7) / 8);
            Subject x = Parts.open("lines " + lines, head, Parts.data(blocks), Parts.lines(lines),
                Parts.scan(0, 63, 0, 2, 0), Parts.data(blocks), E);
            Check.due("height", x.aboutPicture(1), lines);
            Check.due("down", x.aboutPicture(11), (lines + 7) / 8);
            Check.due("segments", x.statusOf(5), 7);
            // The data of the first scan are of so many blocks, though these are told behind them.
            Parts.due("one block more", 15, 0, head, Parts.data(blocks, "00000000"), Parts.lines(lines),
                Parts.scan(0, 63, 0, 2, 0), Parts.data(blocks), E);
        }
        int at = head.length + 1;
        int[] rest = Parts.join(Parts.scan(0, 63, 0, 2, 0), Tiny.BITS, E);
        for (int lines : row(0, 65, 66, 255, 256, 257, 320, 65535)) {
            Parts.due("lines " + lines, 6, at + 5, head, Tiny.BITS, Parts.lines(lines), rest);
        }
        Parts.due("lines behind more 255s", 0, -1, head, Tiny.BITS, row(255, 255), Parts.lines(3), rest);
        Parts.due("lines of three bytes", 5, at + 2, head, Tiny.BITS, Parts.segment(220, 0, 8, 0), rest);
        Parts.due("lines of one byte", 5, at + 2, head, Tiny.BITS, Parts.segment(220, 0), rest);
        Parts.due("wrong lines of three bytes", 6, at + 5, head, Tiny.BITS, Parts.segment(220, 0, 65, 0), rest);
        Parts.due("lines of a progressive frame", 0, -1, Tiny.TABLES, Parts.frame(194, 0, 8, 1, 17, 0),
            Tiny.DIRECT, Tiny.BIT, Parts.lines(8), Parts.scan(1, 63, 0, 1, 0), Tiny.BIT, E);
        // A height that another file told does not stay.
        Subject x = Parts.open("a file with lines", head, Parts.data("0000"), Parts.lines(16), Parts.scan(0, 63, 0, 2, 0),
            Parts.data("0000"), E);
        Parts.give(x, Tiny.FILE);
        Check.due("one without", x.openInput(), 0);
        Check.due("its height", x.aboutPicture(1), 8);
    }

    private static void linesOutOfPlace() {
        Check.sentence("LINES where they can't be, something else where LINES must be,");
        int[] frame = Parts.frame(192, 0, 8, 1, 17, 0, 2, 17, 0);
        int[] head = Parts.join(Tiny.TABLES, frame, Tiny.SCAN, Tiny.BITS);
        int[] rest = Parts.join(Parts.scan(0, 63, 0, 2, 0), Tiny.BITS, E);
        int at = head.length;
        Parts.due("a scan instead", 4, at + 1, head, rest);
        Parts.due("the end instead", 4, at + 1, head, E);
        Parts.due("anything instead", 4, at + 1, head, Parts.segment(254), Parts.lines(8), rest);
        Parts.due("a table instead", 4, at + 1, head, Tiny.Q, Parts.lines(8), rest);
        Parts.due("a wrong restart instead", 4, at + 1, head, row(255, 208), rest);
        Parts.due("no marker instead, though 255 is there", 4, at + 2, head, row(255, 255, 0), rest);
        Parts.due("lines twice", 4, at + 7, head, Parts.lines(8), Parts.lines(8), rest);
        Parts.due("lines behind the second scan", 4, at + 6 + 11 + 1, head, Parts.lines(8),
            Parts.scan(0, 63, 0, 2, 0), Tiny.BITS, Parts.lines(8), E);
        Parts.due("lines with a height", 4, Tiny.HEAD + 13 + 11 + 1, Tiny.TABLES, Tiny.FRAME, Tiny.SCAN, Tiny.BITS,
            Parts.lines(8), E);
        Parts.due("lines ahead of the scan", 4, Tiny.HEAD + frame.length + 1, Tiny.TABLES, frame, Parts.lines(8));
        Parts.due("lines ahead of the frame", 4, Tiny.HEAD + 1, Tiny.TABLES, Parts.lines(8), frame);
        Parts.due("lines at once", 4, 3, S, Parts.lines(8));
        Parts.due("only in the second scan", 4, at + 1, head, Parts.scan(0, 63, 0, 2, 0), Tiny.BITS, Parts.lines(8), E);
    }

    private static void blocks() {
        Check.sentence("A component has BLOCKS: H times as many across as there are such units, V times as many down");
        // Width, height, shapes of two components, and what they have across and down.
        int[][] cases = {{16, 16, 0x22, 0x11, 2, 2, 1, 1}, {17, 16, 0x22, 0x11, 4, 2, 2, 1}, {16, 17, 0x22, 0x11, 2, 4, 1, 2},
            {1, 1, 0x22, 0x11, 2, 2, 1, 1}, {9, 9, 0x11, 0x11, 2, 2, 2, 2}, {8, 8, 0x11, 0x11, 1, 1, 1, 1},
            {17, 9, 0x21, 0x12, 4, 1, 2, 2}, {64, 1, 0x21, 0x11, 8, 1, 4, 1}, {33, 8, 0x12, 0x11, 5, 2, 5, 1}};
        for (int[] w : cases) {
            int hm = Math.max(w[2] >> 4, w[3] >> 4);
            int vm = Math.max(w[2] & 15, w[3] & 15);
            int units = (w[0] + 8 * hm - 1) / (8 * hm) * ((w[1] + 8 * vm - 1) / (8 * vm));
            int each = (w[2] >> 4) * (w[2] & 15) + (w[3] >> 4) * (w[3] & 15);
            Subject x = Parts.open("a picture", Tiny.TABLES, Parts.frame(192, w[1], w[0], 1, w[2], 0, 2, w[3], 0),
                Parts.scan(0, 63, 0, 1, 0, 2, 0), Parts.data("00".repeat(units * each)), E);
            String what = w[0] + " by " + w[1];
            Check.due(what + ": across", x.aboutPicture(10), w[4]);
            Check.due(what + ": down", x.aboutPicture(11), w[5]);
            Check.due(what + ": across", x.aboutPicture(14), w[6]);
            Check.due(what + ": down", x.aboutPicture(15), w[7]);
            Check.due(what + ": all", x.aboutPicture(3), units * each);
        }
    }

    private static void ownBlocks() {
        Check.sentence("OF ITS OWN it has (WIDTH * H / HM) / 8 across and (HEIGHT * V / VM) / 8 down (both divisions each up), "
            + "the first ones of the first rows.");
        // Of H 1 beside H 2: 17 are 9 samples, so two blocks; 16 are eight, so one.
        int[][] cases = {{16, 1}, {17, 2}, {15, 1}, {32, 2}, {33, 3}, {48, 3}, {49, 4}, {64, 4}, {1, 1}};
        for (int[] w : cases) {
            String first = "00".repeat((w[0] + 7) / 8);
            int[] across = Parts.join(Tiny.TABLES, Parts.frame(192, 8, w[0], 1, 33, 0, 2, 17, 0), Tiny.SCAN,
                Parts.data(first), Parts.scan(0, 63, 0, 2, 0));
            Parts.due(w[0] + " across", 0, -1, across, Parts.data("00".repeat(w[1])), E);
            Parts.due(w[0] + " across, one more", 15, 1, across, Parts.data("00".repeat(w[1] + 1)), E);
            int[] down = Parts.join(Tiny.TABLES, Parts.frame(192, w[0], 8, 1, 18, 0, 2, 17, 0), Tiny.SCAN,
                Parts.data(first), Parts.scan(0, 63, 0, 2, 0));
            Parts.due(w[0] + " down", 0, -1, down, Parts.data("00".repeat(w[1])), E);
            Parts.due(w[0] + " down, one more", 15, 1, down, Parts.data("00".repeat(w[1] + 1)), E);
        }
        // Of two by two blocks in each of two units: 17 by 9 has 3 by 2 of its own, each 1 more than the one before.
        Subject x = Parts.open("the first ones of the first rows", Tiny.TABLES, Parts.frame(192, 9, 17, 1, 34, 0), Tiny.SCAN,
            Parts.data("10 1 0".repeat(6)), E);
        int[][] want = {{1, 2, 3, 0}, {4, 5, 6, 0}};
        for (int by = 0; by < 2; by++) {
            for (int bx = 0; bx < 4; bx++) {
                Check.due("block " + bx + ", " + by, x.coefficientAt(0, bx, by, 0), want[by][bx]);
            }
        }
        Check.due("blocks", x.aboutPicture(3), 8);
    }

    private static void tooManyBlocks() {
        Check.sentence("Then 9: its FRAME has more than 192 blocks (no place).");
        int[] names = {1, 17, 0, 2, 17, 0, 3, 17, 0, 4, 17, 0};
        int[] all = Parts.scan(0, 63, 0, 1, 0, 2, 0, 3, 0, 4, 0);
        Parts.due("256 blocks", 9, -1, Tiny.TABLES, Parts.frame(192, 64, 64, names), all, new int[64], E);
        Parts.due("224 blocks", 9, -1, Tiny.TABLES, Parts.frame(192, 49, 64, names), all, new int[56], E);
        Parts.due("192 blocks", 0, -1, Tiny.TABLES, Parts.frame(192, 48, 64, names), all, new int[48], E);
        // 193 are 64 + 64 + 64 + 1: not by one unit round. 4 by 4 units of 4 + 4 + 4 + 1 are 208, and without the last 192.
        int[] large = Parts.frame(192, 64, 64, 1, 34, 0, 2, 34, 0, 3, 34, 0, 4, 17, 0);
        int[] each = Parts.join(Tiny.SCAN, new int[16], Parts.scan(0, 63, 0, 2, 0), new int[16], Parts.scan(0, 63, 0, 3, 0),
            new int[16]);
        Parts.due("208 blocks", 9, -1, Tiny.TABLES, large, each, Parts.scan(0, 63, 0, 4, 0), new int[4], E);
        int[] three = Parts.frame(192, 64, 64, 1, 34, 0, 2, 34, 0, 3, 34, 0);
        Parts.due("192 blocks of three", 0, -1, Tiny.TABLES, three, each, E);
        // Units that are not whole count, too: 57 by 49 of 2 by 2 and so on are 4 by 4 units.
        Parts.due("208 blocks of 49 by 49", 9, -1, Tiny.TABLES,
            Parts.frame(192, 49, 49, 1, 34, 0, 2, 34, 0, 3, 34, 0, 4, 17, 0), Tiny.SCAN, row(1), Parts.scan(0, 63, 0, 2, 0),
            row(1), Parts.scan(0, 63, 0, 3, 0), row(1), Parts.scan(0, 63, 0, 4, 0), row(1), E);
        Parts.due("a fault of the file comes ahead", 1, Tiny.HEAD + 22 + all.length + 2, Tiny.TABLES,
            Parts.frame(192, 64, 64, names), all, row(1, 2));
        Parts.due("a fault of reading comes behind", 9, -1, Tiny.TABLES, Parts.frame(192, 64, 64, names), all, row(1), E);
        Parts.due("so do BITS", 9, -1, Tiny.TABLES, Parts.frame(194, 64, 64, names),
            Parts.scan(0, 0, 10, 1, 0, 2, 0, 3, 0, 4, 0), row(1), E);
        Parts.due("256 blocks by lines", 9, -1, Tiny.TABLES, Parts.frame(192, 0, 64, names), all, new int[64],
            Parts.lines(64), E);
        Parts.due("192 blocks by lines", 0, -1, Tiny.TABLES, Parts.frame(192, 0, 64, names), all, new int[48],
            Parts.lines(48), E);
    }
}
