/** Promise 5: the data of scans, read bit by bit, with faults 10 to 15 and the coefficients that come of them. */
public final class ReadingTest {
    private static final int[] E = Parts.END;
    private static final int[] HEAD = Parts.join(Parts.START, Parts.quantiser(0, 3));
    /** Words 0, 10, 110, .. of sixteen lengths: no row of fewer than sixteen 1s is wrong. */
    private static final int[] LONG_DC = Parts.words(0, 0, 1, 2, 3, 4, 5, 6, 7, 8, 9, 10, 11);

    public static void main(String[] args) {
        wholeWords();
        wholeSymbols();
        directNumbers();
        ends();
        restarts();
        bands();
        refinedBands();
        refinedDirect();
        ownBlocksAndUnits();
        Check.end();
    }

    private static int[] blocks(int code, int many) {
        return Parts.frame(code, 8, 8 * many, 1, 17, 0);
    }

    /** A sequential file with so many blocks. */
    private static void whole(String what, int fault, int many, int[] dc, int[] ac, String... bits) {
        Parts.due(what, fault, fault == 0 ? -1 : 0, HEAD, dc, ac, blocks(192, many),
            Parts.scan(0, 63, 0, 1, 0), Parts.data(bits), E);
    }

    private static WavePictures open(String what, int[]... parts) {
        WavePictures x = new WavePictures();
        Parts.give(x, Parts.join(parts));
        Check.due(what, x.openInput(), 0);
        return x;
    }

    private static void block(String what, WavePictures x, int bx, int... pairs) {
        int[] want = new int[64];
        for (int k = 0; k < pairs.length; k += 2) {
            want[pairs[k]] = pairs[k + 1];
        }
        for (int k = 0; k < 64; k++) {
            Check.due(what + ": coefficient " + k + " of block " + bx, x.coefficientAt(0, bx, 0, k), want[k]);
        }
    }

    private static void wholeWords() {
        int[] ac = Parts.words(16, 0, 1);
        int[] dc = Parts.words(0, 0);
        whole("one block", 0, 1, dc, ac, "00");
        whole("bits begin no word", 12, 1, dc, ac, "1");
        whole("bits begin no word later", 12, 1, dc, ac, "011");
        whole("no byte at all", 11, 1, dc, ac);
        whole("too few bytes", 11, 2, LONG_DC, Parts.words(16, 1, 2, 3, 4, 5, 6, 7, 8, 9, 10, 0), "0");
        // The eighth bit is the first wrong one: none behind it is asked for.
        whole("2 ahead of 1", 12, 4, dc, Parts.words(16, 0), "00 00 00 0 1");
        whole("1 if it may go on", 11, 4, dc, ac, "00 00 00 0 1");
        whole("a word of sixteen bits", 0, 1, dc,
            Parts.words(16, 1, 2, 3, 4, 5, 6, 7, 8, 9, 10, 17, 18, 19, 20, 21, 0), "0 1111111111111110");
        whole("no word of sixteen bits", 12, 1, dc,
            Parts.words(16, 1, 2, 3, 4, 5, 6, 7, 8, 9, 10, 17, 18, 19, 20, 21, 0), "0 1111111111111111");
        WavePictures x = open("bytes 255 with their 0", HEAD, dc, Parts.words(16, 0, 1, 2, 3, 4, 10), blocks(192, 1),
            Parts.scan(0, 63, 0, 1, 0), new int[] {0x7d, 255, 0, 0xfd, 255, 0, 0xbf}, E);
        block("bytes 255 with their 0", x, 0, 1, 1023, 2, 1023);
    }

    private static void wholeSymbols() {
        int[] dc = Parts.words(0, 0);
        for (int s = 11; s < 16; s++) {
            whole("symbol " + s + " ahead of its bits", 13, 3, dc, Parts.words(16, 0, 1, s), "00 00 0 110");
            whole("symbol " + s, 13, 1, dc, Parts.words(16, 0, 240 + s), "0 10 00000000000000000");
        }
        for (int n = 1; n < 15; n++) {
            whole("symbol 16 * " + n, 13, 1, dc, Parts.words(16, 0, 16 * n), "0 10 0");
        }
        int[] ac = Parts.words(16, 0, 240, 1, 241, 225);
        whole("three times sixteen 0s", 0, 1, dc, ac, "0 10 10 10 0");
        whole("four times sixteen 0s", 13, 1, dc, ac, "0 10 10 10 10 0");
        whole("R goes beyond", 13, 1, dc, ac, "0 10 10 10 1110 1");
        WavePictures x = open("R goes to the last one", HEAD, dc, ac, blocks(192, 1), Parts.scan(0, 63, 0, 1, 0),
            Parts.data("0 10 10 10 11110 1"), E);
        block("R goes to the last one", x, 0, 63, 1);
        x = open("sixteen 0s that end a block", HEAD, dc, ac, blocks(192, 2), Parts.scan(0, 63, 0, 1, 0),
            Parts.data("0 11110 0 10 10 10", "0 110 1 0"), E);
        block("sixteen 0s that end a block", x, 0, 15, -1);
        block("and the one behind it", x, 1, 1, 1);
        x = open("all sizes", HEAD, dc, Parts.words(16, 0, 10, 9, 26), blocks(192, 1), Parts.scan(0, 63, 0, 1, 0),
            Parts.data("0 10 1111111111 10 0000000000 10 1000000000 10 0111111111 110 011111111 1110 0000000001 0"), E);
        block("all sizes", x, 0, 1, 1023, 2, -1023, 3, 512, 4, -512, 5, -256, 7, -1022);
    }

    private static void directNumbers() {
        int[] ac = Parts.words(16, 0);
        int[] dc = Parts.words(0, 0, 1, 10, 11);
        whole("1023", 0, 1, dc, ac, "110 1111111111 0");
        whole("1023 + 1", 14, 2, dc, ac, "110 1111111111 0 10 1 0");
        whole("-1023 - 1", 0, 2, dc, ac, "110 0000000000 0 10 0 0");
        whole("-1023 - 1 - 1", 14, 3, dc, ac, "110 0000000000 0 10 0 0 10 0 0");
        whole("1024 at once", 14, 1, dc, ac, "1110 10000000000 0");
        whole("-1024 at once", 0, 1, dc, ac, "1110 01111111111 0");
        whole("4 behind the bits", 11, 1, dc, ac, "1110 1000");
        WavePictures x = open("from one end to the other", HEAD, dc, ac, blocks(192, 4), Parts.scan(0, 63, 0, 1, 0),
            Parts.data("110 1111111111 0 1110 00000000000 0 10 1 0 0 0"), E);
        int[] want = {1023, -1024, -1023, -1023};
        for (int bx = 0; bx < 4; bx++) {
            block("from one end to the other", x, bx, 0, want[bx]);
        }
        // Shifted by BITS the same numbers are out of bounds earlier.
        for (int bits = 0; bits < 10; bits++) {
            int most = 1023 >> bits;
            String ones = Integer.toBinaryString(most);
            int[] table = Parts.words(0, 0, 1, ones.length());
            int[] head = Parts.join(HEAD, bits == 9 ? Parts.words(0, 0, 1) : table, blocks(194, 2), Parts.scan(0, 0, bits, 1, 0));
            String word = bits == 9 ? "10" : "110";
            x = open("most with BITS " + bits, head, Parts.data(word + ones + "0"), E);
            Check.due("most with BITS " + bits, x.coefficientAt(0, 1, 0, 0), most << bits);
            Parts.due("more with BITS " + bits, 14, 0, head, Parts.data(word + ones + "101"), E);
            String zeros = ones.replace('1', '0');
            x = open("least with BITS " + bits, head, Parts.data(word + zeros + "100"), E);
            Check.due("least with BITS " + bits, x.coefficientAt(0, 1, 0, 0), -(most + 1) << bits);
        }
        Parts.due("BITS 10", 10, 0, HEAD, dc, blocks(194, 1), Parts.scan(0, 0, 10, 1, 0), Parts.data("0"), E);
    }

    private static void ends() {
        int[] dc = Parts.words(0, 0);
        int[] ac = Parts.words(16, 0);
        int[] head = Parts.join(HEAD, dc, ac, blocks(192, 1), Parts.scan(0, 63, 0, 1, 0));
        for (int value = 0; value < 64; value++) {
            Parts.due("filled with " + value, value == 63 ? 0 : 15, value == 63 ? -1 : 0, head, new int[] {value}, E);
        }
        Parts.due("a byte more", 15, 0, head, new int[] {0x3f, 0x3f}, E);
        Parts.due("a byte 255 more", 15, 0, head, new int[] {0x3f, 255, 0}, E);
        int[] eight = Parts.join(HEAD, dc, ac, blocks(192, 4), Parts.scan(0, 63, 0, 1, 0));
        Parts.due("eight bits", 0, -1, eight, new int[] {0}, E);
        Parts.due("eight bits and a byte more", 15, 0, eight, new int[] {0, 255, 0}, E);
        // Seventeen bits: the last byte is a 1 and seven more, so it has a 0 behind it.
        int[] last = Parts.join(HEAD, Parts.words(0, 0, 1, 2), Parts.words(16, 0, 240, 1, 241, 225), blocks(192, 1),
            Parts.scan(0, 63, 0, 1, 0));
        Parts.due("a last byte 255", 0, -1, last, Parts.data("110 10 10 10 10 11110 1"), E);
        Parts.due("a last byte 255 and another one", 15, 0, last, Parts.data("110 10 10 10 10 11110 1", "11111111"), E);
    }

    private static void restarts() {
        int[] dc = Parts.words(0, 0, 1);
        int[] ac = Parts.words(16, 0);
        int[] head = Parts.join(HEAD, dc, ac, Parts.interval(2), blocks(192, 5), Parts.scan(0, 63, 0, 1, 0));
        WavePictures x = open("restarts", head, Parts.data("10 1 0 10 1 0", "R0", "10 0 0 0 0", "R1", "0 0"), E);
        int[] want = {1, 2, -1, -1, 0};
        for (int bx = 0; bx < 5; bx++) {
            block("restarts", x, bx, 0, want[bx]);
        }
        Parts.due("a restart early", 11, 0, HEAD, dc, ac, Parts.interval(5), blocks(192, 8), Parts.scan(0, 63, 0, 1, 0),
            Parts.data("00 00 00 00", "R0", "00 00 00 00"), E);
        Parts.due("a restart late", 15, 0, head, Parts.data("00 00 00", "R0", "00", "R1", "00"), E);
        Parts.due("a restart too few", 15, 0, head, Parts.data("00 00", "R0", "00 00 00"), E);
        Parts.due("a restart too many", 15, 0, head, Parts.data("00 00", "R0", "00 00", "R1", "00", "R2"), E);
        Parts.due("a restart at once", 11, 0, head, Parts.data("R0", "00 00", "R1", "00 00", "R2", "00"), E);
        Parts.due("wrong bits ahead of one", 15, 0, head, Parts.data("00 00 0", "R0", "00 00", "R1", "00"), E);
        Parts.due("too many bits ahead of one", 15, 0, head, Parts.data("00 00 1111 1111 1111", "R0", "00 00", "R1", "00"), E);
        Parts.due("none though there is an interval", 15, 0, head, Parts.data("00 00 00 00 00"), E);
        Parts.due("an interval that is long", 0, -1, HEAD, dc, ac, Parts.interval(5), blocks(192, 5),
            Parts.scan(0, 63, 0, 1, 0), Parts.data("00 00 00 00 00"), E);
        // An interval told between two scans is that of the second one.
        int[] two = Parts.frame(192, 8, 16, 1, 17, 0, 2, 17, 0);
        Parts.due("an interval for the second scan", 0, -1, HEAD, dc, ac, two, Parts.scan(0, 63, 0, 1, 0),
            Parts.data("00 00"), Parts.interval(1), Parts.scan(0, 63, 0, 2, 0), Parts.data("00", "R0", "00"), E);
        Parts.due("a fault of the second scan", 15, 1, HEAD, dc, ac, two, Parts.scan(0, 63, 0, 1, 0),
            Parts.data("00 00"), Parts.interval(1), Parts.scan(0, 63, 0, 2, 0), Parts.data("00 00"), E);
        // Tables told between two scans are those of the second one.
        Parts.due("words for the second scan", 12, 1, HEAD, dc, ac, two, Parts.scan(0, 63, 0, 1, 0),
            Parts.data("10 1 0 0 0"), Parts.words(0, 0), Parts.scan(0, 63, 0, 2, 0), Parts.data("10 1 0 0 0"), E);
    }

    /** Of a progressive picture: the direct coefficients are all 0, then these scans. */
    private static int[] progressive(int many, int... symbols) {
        return Parts.join(HEAD, Parts.words(0, 0), Parts.words(16, symbols), blocks(194, many), Parts.scan(0, 0, 0, 1, 0),
            Parts.data("0".repeat(many)));
    }

    private static void bands() {
        int[] head = progressive(4, 0, 1, 16, 32, 240, 10, 224, 241);
        WavePictures x = open("runs", head, Parts.scan(1, 63, 1, 1, 0), Parts.data("10 1 110 0", "10 0 10 1 0", "0"), E);
        block("runs", x, 0, 1, 2);
        block("runs", x, 1);
        block("runs", x, 2, 1, -2, 2, 2);
        block("runs", x, 3);
        Parts.due("a run of four", 0, -1, head, Parts.scan(1, 63, 0, 1, 0), Parts.data("1110 00"), E);
        Parts.due("a run of five", 15, 1, head, Parts.scan(1, 63, 0, 1, 0), Parts.data("1110 01"), E);
        Parts.due("a run without its bits", 11, 1, head, Parts.scan(1, 63, 0, 1, 0), Parts.data("0 10 1 1110"), E);
        Parts.due("a long run beyond the end", 15, 1, head, Parts.scan(1, 63, 0, 1, 0), Parts.data("1111110 11111111111111"), E);
        Parts.due("a run beyond a restart", 15, 1, head, Parts.interval(2), Parts.scan(1, 63, 0, 1, 0),
            Parts.data("1110 00", "R0", "0 0"), E);
        Parts.due("runs between restarts", 0, -1, head, Parts.interval(2), Parts.scan(1, 63, 0, 1, 0),
            Parts.data("110 0", "R0", "110 0"), E);
        Parts.due("sixteen 0s to the last", 0, -1, head, Parts.scan(1, 16, 0, 1, 0), Parts.data("11110 0 0 0"), E);
        Parts.due("sixteen 0s beyond the last", 13, 1, head, Parts.scan(2, 16, 0, 1, 0), Parts.data("11110 0 0 0"), E);
        Parts.due("R beyond the last", 13, 1, head, Parts.scan(1, 15, 0, 1, 0), Parts.data("11111110 1 0 0 0"), E);
        Parts.due("R to the last", 0, -1, head, Parts.scan(1, 16, 0, 1, 0), Parts.data("11111110 1 0 0 0"), E);
        Parts.due("511 and BITS 1", 0, -1, progressive(1, 0, 9), Parts.scan(5, 5, 1, 1, 0), Parts.data("10 111111111"), E);
        Parts.due("512 and BITS 1", 14, 1, head, Parts.scan(5, 5, 1, 1, 0), Parts.data("111110 1000000000 0 0 0"), E);
        Parts.due("-512 and BITS 1", 14, 1, head, Parts.scan(5, 5, 1, 1, 0), Parts.data("111110 0111111111 0 0 0"), E);
        Parts.due("1 and BITS 9", 0, -1, head, Parts.scan(5, 5, 9, 1, 0), Parts.data("10 1 10 0 10 1 10 0"), E);
        Parts.due("symbol 11", 13, 1, progressive(1, 0, 11), Parts.scan(5, 63, 0, 1, 0), Parts.data("10 00000000000 0"), E);
    }

    private static void refinedBands() {
        // 1, 4 and 6 of the first block, 2 of the second one become 4, -4, 4, -4.
        int[] head = Parts.join(progressive(3, 0, 1, 17, 33, 16, 240, 2),
            Parts.scan(1, 8, 2, 1, 0), Parts.data("10 1", "1110 0", "110 1", "0", "110 0 0 0"));
        WavePictures x = open("a first scan", head, E);
        block("a first scan", x, 0, 1, 4, 4, -4, 6, 4);
        block("a first scan", x, 1, 2, -4);
        block("a first scan", x, 2);
        // Of the first block: 17 passes over 2 and ends at 3, with a bit for 1; then a run of three with bits.
        int[] refined = Parts.join(head, Parts.scan(1, 8, 0x21, 1, 0), Parts.data("110 0 1", "11110 1", "0 1", "1"));
        x = open("refined", refined, E);
        block("refined", x, 0, 1, 6, 3, -2, 4, -4, 6, 6);
        block("refined", x, 1, 2, -6);
        block("refined", x, 2);
        int[] scan = Parts.scan(1, 8, 0x21, 1, 0);
        Parts.due("symbol 2", 13, 2, head, scan, Parts.data("1111110"), E);
        Parts.due("symbol 2 ahead of its bits", 13, 2, head, scan, Parts.data("10 1 0 0 00 0 0 1111110"), E);
        Parts.due("no sixteenth 0", 13, 2, head, scan, Parts.data("111110 111 0"), E);
        Parts.due("no bits for that", 11, 2, progressive(1, 0, 1, 17, 33, 16, 240, 2), Parts.scan(1, 8, 2, 1, 0),
            Parts.data("10 1 10 1 10 1 10 1 10 1 10 1 10 1 10 1"), scan, Parts.data("111110 11"), E);
        Parts.due("no 0 at all", 13, 2, progressive(1, 0, 1, 17, 33, 16, 240, 2), Parts.scan(1, 2, 2, 1, 0),
            Parts.data("10 1 10 1"), Parts.scan(1, 2, 0x21, 1, 0), Parts.data("10 1 11"), E);
        Parts.due("a run's bits are not there", 11, 2, head, scan, Parts.data("11110 1 11"), E);
        Parts.due("a run beyond the end", 15, 2, head, scan, Parts.data("0 111 11110 1 1"), E);
        // A block all of whose coefficients have been gone over needs no word for its end.
        int[] small = Parts.join(progressive(2, 0, 1, 17), Parts.scan(1, 2, 1, 1, 0), Parts.data("0 0"));
        x = open("up to the last", small, Parts.scan(1, 2, 0x10, 1, 0), Parts.data("110 1 10 0 0"), E);
        block("up to the last", x, 0, 2, 1);
        block("up to the last", x, 1, 1, -1);
        // 240 passes over sixteen 0s, and over others with their bits.
        int[] sixteen = Parts.join(progressive(1, 0, 1, 240), Parts.scan(1, 20, 1, 1, 0), Parts.data("10 1 0"));
        x = open("240", sixteen, Parts.scan(1, 20, 0x10, 1, 0), Parts.data("110 1 10 0 0"), E);
        block("240", x, 0, 1, 3, 18, -1);
    }

    private static void refinedDirect() {
        int[] head = Parts.join(HEAD, Parts.words(0, 0, 1, 2), blocks(194, 4), Parts.scan(0, 0, 2, 1, 0),
            Parts.data("10 1 10 0 10 0 110 11"));
        WavePictures x = open("direct", head, Parts.scan(0, 0, 0x21, 1, 0), Parts.data("1 0 1 1"),
            Parts.scan(0, 0, 0x10, 1, 0), Parts.data("0 1 1 1"), E);
        int[] want = {6, 1, -1, 11};
        for (int bx = 0; bx < 4; bx++) {
            block("direct", x, bx, 0, want[bx]);
        }
        Parts.due("direct bits that end", 11, 1, Parts.join(HEAD, Parts.words(0, 0), blocks(194, 8),
            Parts.scan(0, 0, 1, 1, 0), new int[] {0}), Parts.scan(0, 0, 0x10, 1, 0), E);
        Parts.due("direct bits wrongly filled", 15, 1, head, Parts.scan(0, 0, 0x21, 1, 0), new int[] {0xfe}, E);
    }

    private static void ownBlocksAndUnits() {
        // 17 by 9 with H 2, V 2 and H 1, V 1: two units of five blocks; alone the first one has 3 by 2 of its own.
        int[] dc = Parts.words(0, 0, 1);
        int[] ac = Parts.words(16, 0);
        int[] frame = Parts.frame(192, 9, 17, 1, 34, 0, 2, 17, 0);
        String unit = "10 1 0 10 1 0 10 1 0 10 1 0";
        WavePictures x = open("together", HEAD, dc, ac, frame, Parts.scan(0, 63, 0, 1, 0, 2, 0),
            Parts.data(unit, "10 0 0", unit, "10 0 0"), E);
        int[][] want = {{1, 2, 5, 6}, {3, 4, 7, 8}};
        for (int by = 0; by < 2; by++) {
            for (int bx = 0; bx < 4; bx++) {
                Check.due("together " + bx + " " + by, x.coefficientAt(0, bx, by, 0), want[by][bx]);
            }
        }
        Check.due("the other one", x.coefficientAt(1, 1, 0, 0), -2);
        x = open("alone", HEAD, dc, ac, frame, Parts.scan(0, 63, 0, 1, 0), Parts.data(unit, "10 1 0 10 1 0"),
            Parts.scan(0, 63, 0, 2, 0), Parts.data("0 0 10 1 0"), E);
        int[][] alone = {{1, 2, 3, 0}, {4, 5, 6, 0}};
        for (int by = 0; by < 2; by++) {
            for (int bx = 0; bx < 4; bx++) {
                Check.due("alone " + bx + " " + by, x.coefficientAt(0, bx, by, 0), alone[by][bx]);
            }
        }
        Check.due("the other one alone", x.coefficientAt(1, 1, 0, 0), 1);
        Check.due("blocks", x.aboutPicture(3), 10);
        // 16 by 1 with H 1 beside H 2: of its own it has one block across, as have its units.
        Parts.due("units of two", 0, -1, HEAD, dc, ac, Parts.interval(1), frame, Parts.scan(0, 63, 0, 1, 0, 2, 0),
            Parts.data(unit, "0 0", "R0", unit, "0 0"), E);
    }
}
