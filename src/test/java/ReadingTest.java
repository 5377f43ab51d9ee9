/** Promise 5: whole scans and direct coefficients, read bit by bit, with faults 10 to 15 and what comes of them. */
public final class ReadingTest {
    private static final int[] E = Parts.END;
    private static final int[] HEAD = Parts.join(Parts.START, Parts.quantiser(0, 3));
    private static final int[] WHOLE = Parts.scan(0, 63, 0, 1, 0);

    public static void main(String[] args) {
        bitsThatEnd();
        bitsThatBeginNoWord();
        directSizes();
        symbolsThatCanNotBe();
        zerosBeyondTheLast();
        threeAheadOfTheBits();
        directOnesOutOfBounds();
        fourBehindTheBits();
        filling();
        restarts();
        predictions();
        unitsAndBlocks();
        manyBits();
        placesOfFaults();
        refinedDirect();
        allAreZeroAtFirst();
        Check.end();
    }

    private static int[] blocks(int code, int many) {
        return Parts.frame(code, 8, 8 * many, 1, 17, 0);
    }

    /** A sequential file with so many blocks. */
    private static void whole(String what, int fault, int many, int[] dc, int[] ac, String... bits) {
        Parts.due(what, fault, fault == 0 ? -1 : 0, HEAD, dc, ac, blocks(192, many), WHOLE, Parts.data(bits), E);
    }

    private static void block(String what, Subject x, int bx, int... pairs) {
        int[] want = new int[64];
        for (int k = 0; k < pairs.length; k += 2) {
            want[pairs[k]] = pairs[k + 1];
        }
        for (int k = 0; k < 64; k++) {
            Check.due(what + ": coefficient " + k + " of block " + bx, x.coefficientAt(0, bx, 0, k), want[k]);
        }
    }

    private static void bitsThatEnd() {
        Check.sentence("1: the bits (up to a RESTART, or the end of the DATA) end where one is needed.");
        int[] dc = Parts.words(0, 0, 1, 2, 3, 4, 5, 6, 7, 8, 9, 10, 11);
        int[] ac = Parts.words(16, 0, 1, 2, 3, 4, 5, 6, 7, 8, 9, 10);
        whole("no byte at all", 11, 1, dc, ac);
        whole("ahead of a direct word", 11, 5, dc, ac, "00 00 00 00");
        whole("in a direct word", 11, 4, dc, ac, "00 00 00 11");
        whole("ahead of the direct bits", 11, 4, dc, ac, "00 00 00 10");
        whole("in the direct bits", 11, 3, dc, ac, "00 00 1110 ");
        whole("ahead of another word", 11, 5, dc, ac, "00 10 1 0 00");
        whole("in another word", 11, 4, dc, ac, "00 00 00 0 1");
        whole("ahead of its bits", 11, 4, dc, ac, "00 00 0 0 0 10");
        whole("in its bits", 11, 3, dc, ac, "00 0 1110 1");
        whole("in the last block of all", 11, 2, dc, ac, "00 0 11110");
        int[] two = Parts.join(HEAD, dc, ac, Parts.interval(1), blocks(192, 2), WHOLE);
        Parts.due("up to a restart, a word", 11, 0, two, Parts.data("0 1111111", "R0", "00"), E);
        Parts.due("up to a restart, its bits", 11, 0, two, Parts.data("0 1111110", "R0", "00"), E);
        Parts.due("up to the end, behind a restart", 11, 0, two, Parts.data("00", "R0"), E);
        Parts.due("up to the end", 11, 0, two, Parts.data("00", "R0", "0 1111111"), E);
        // 255, 0 is a byte of bits: these end behind it.
        Parts.due("behind a byte 255", 11, 0, HEAD, dc, ac, blocks(192, 1), WHOLE, new int[] {255, 0}, E);
        Parts.due("behind a byte 255, at a restart", 11, 0, two, new int[] {255, 0, 255, 208}, Parts.data("00"), E);
        int[] direct = Parts.join(HEAD, dc, Parts.frame(194, 24, 24, 1, 17, 0), Parts.scan(0, 0, 1, 1, 0));
        Parts.due("of direct ones", 11, 0, direct, new int[] {0}, E);
        int[] sent = Parts.join(direct, Parts.data("000000000"), Parts.scan(0, 0, 0x10, 1, 0));
        Parts.due("of refined direct ones", 11, 1, sent, new int[] {0}, E);
        Parts.due("of refined direct ones, none", 11, 1, sent, E);
        Parts.due("just so many", 0, -1, sent, Parts.data("000000000"), E);
    }

    private static void bitsThatBeginNoWord() {
        Check.sentence("2: the bits that were taken, one by one, begin no word "
            + "(also when none has been taken, if the TABLE has no words): ahead of taking another one.");
        int[] one = Parts.words(0, 0);
        int[] other = Parts.words(16, 0);
        whole("direct bits", 12, 1, one, other, "1");
        whole("other bits", 12, 1, one, other, "01");
        whole("other bits later", 12, 1, one, Parts.words(16, 0, 1), "0 11");
        // The eighth bit is the first wrong one, and the last that is there.
        whole("ahead of 1", 12, 4, one, other, "00 00 00 0 1");
        whole("1 if it may go on", 11, 4, one, Parts.words(16, 0, 1), "00 00 00 0 1");
        whole("ahead of 1, direct", 12, 8, one, Parts.words(16, 0, 1), "00 00 00 10 1");
        // Words of 2 and 4 bits: 00, 0100, 0101. What begins with 1 or 011 begins none of them.
        int[] gaps = Parts.segment(196, 16, 0, 1, 0, 2, 0, 0, 0, 0, 0, 0, 0, 0, 0, 0, 0, 0, 0, 1, 2);
        whole("a word of two", 0, 1, one, gaps, "0 00");
        whole("a word of four", 0, 1, one, gaps, "0 0100 1 00");
        whole("the last word", 0, 1, one, gaps, "0 0101 11 00");
        whole("no word of two", 12, 1, one, gaps, "0 011");
        whole("seen with the first bit, which is the last there", 12, 4, one, gaps, "0 00 0 00 0 1");
        int[] sixteen = Parts.words(16, 1, 2, 3, 4, 5, 6, 7, 8, 9, 10, 17, 18, 19, 20, 21, 0);
        whole("a word of sixteen bits", 0, 1, one, sixteen, "0 1111111111111110");
        whole("no word of sixteen bits", 12, 1, one, sixteen, "0 1111111111111111");
        int[] single = Parts.segment(196, 16, 0, 0, 0, 0, 0, 0, 0, 0, 0, 0, 0, 0, 0, 0, 0, 1, 0);
        whole("one word of sixteen bits", 0, 1, one, single, "0 0000000000000000");
        whole("its last bit is another", 12, 1, one, single, "0 0000000000000001");
        whole("a bit within is another", 12, 1, one, single, "0 000000 1");
    }

    private static void directSizes() {
        Check.sentence("SIZE of a number is how many bits its amount has (0 for 0). THE BITS OF a number d of size s "
            + "are the lowest s bits of d, if it is above 0, of d - 1 otherwise.");
        int[] dc = Parts.words(0, 0, 1, 2, 3, 4, 5, 6, 7, 8, 9, 10, 11);
        int[] ac = Parts.words(16, 0, 1, 2, 3, 4, 5, 6, 7, 8, 9, 10);
        for (int size = 0; size <= 10; size++) {
            String word = "1".repeat(size) + "0";
            int least = size == 0 ? 0 : 1 << size - 1;
            int most = (1 << size) - 1;
            String high = size == 0 ? "" : "1" + "0".repeat(size - 1);
            String low = size == 0 ? "" : "0" + "1".repeat(size - 1);
            Subject x = Parts.open("size " + size, HEAD, dc, ac, blocks(192, 4), Parts.interval(1), WHOLE,
                Parts.data(word + high + "0", "R0", word + "1".repeat(size) + "0", "R1", word + "0".repeat(size) + "0",
                    "R2", word + low + "0"), E);
            int[] want = {least, most, -most, -least};
            for (int bx = 0; bx < 4; bx++) {
                block("direct of size " + size, x, bx, 0, want[bx]);
            }
            if (size > 0) {
                Subject y = Parts.open("size " + size, HEAD, dc, ac, blocks(192, 1), WHOLE,
                    Parts.data("0", word + high, word + "1".repeat(size), word + "0".repeat(size), word + low, "0"), E);
                block("others of size " + size, y, 0, 1, least, 2, most, 3, -most, 4, -least);
            }
        }
        // Size 11: from one end of what can be to the other.
        Subject x = Parts.open("size 11", HEAD, dc, ac, blocks(192, 4), WHOLE,
            Parts.data("11111111110 1111111111 0", "111111111110 00000000000 0", "111111111110 11111111111 0",
                "111111111110 01111111111 0"), E);
        int[] want = {1023, -1024, 1023, -1};
        for (int bx = 0; bx < 4; bx++) {
            block("size 11", x, bx, 0, want[bx]);
        }
    }

    private static void symbolsThatCanNotBe() {
        Check.sentence("3: a SYMBOL that can not be there: direct: above 11; others: S above 10, in a REFINEMENT above 1; "
            + "in WHOLE 16 * n with n 1 .. 14;");
        int[] dc = Parts.words(0, 0);
        for (int r = 0; r < 16; r++) {
            for (int s = 0; s < 16; s++) {
                int symbol = 16 * r + s;
                if (symbol == 0) {
                    continue;
                }
                // The word 10 is that symbol, with as many bits as it needs, and the end behind it.
                boolean good = s == 0 ? r == 15 : s <= 10;
                whole("symbol " + symbol, good ? 0 : 13, 1, dc, Parts.words(16, 0, symbol), "0 10" + "1".repeat(s) + "0");
            }
        }
        whole("symbol 0", 0, 1, dc, Parts.words(16, 0), "0 0");
    }

    private static void zerosBeyondTheLast() {
        Check.sentence("R goes beyond LAST (for 240, the sixteenth of those, too;");
        int[] dc = Parts.words(0, 0);
        int[] ac = Parts.words(16, 0, 240, 1, 241, 225);
        whole("three times sixteen 0s", 0, 1, dc, ac, "0 10 10 10 0");
        whole("four times sixteen 0s", 13, 1, dc, ac, "0 10 10 10 10 0");
        whole("R one beyond", 13, 1, dc, ac, "0 10 10 10 1110 1");
        Subject x = Parts.open("R up to the last one", HEAD, dc, ac, blocks(192, 2), WHOLE,
            Parts.data("0 10 10 10 11110 1", "0 110 0 0"), E);
        block("R up to the last one", x, 0, 63, 1);
        block("no word for its end", x, 1, 1, -1);
        // 15 - 1 and then three times sixteen: 240 ends at 63.
        x = Parts.open("240 up to the last one", HEAD, dc, ac, blocks(192, 2), WHOLE,
            Parts.data("0 11110 0 10 10 10", "0 110 1 0"), E);
        block("240 up to the last one", x, 0, 15, -1);
        block("no word for its end", x, 1, 1, 1);
        whole("240 one beyond the last one", 13, 1, dc, ac, "0 1110 1 10 10 10");
        whole("nothing behind the last one", 15, 1, dc, ac, "0 10 10 10 11110 1 0");
        // All sixty-three, and one more that belongs to the next block.
        String all = "0" + "110 1".repeat(63);
        whole("all of them", 0, 1, dc, ac, all);
        whole("one more", 15, 1, dc, ac, all + "110 1");
    }

    private static void threeAheadOfTheBits() {
        Check.sentence("But for that, 3 comes ahead of the bits behind the word, and 4 behind them.");
        int[] dc = Parts.words(0, 0);
        for (int s = 11; s < 16; s++) {
            whole("symbol " + s + " at the end of the bits", 13, 3, dc, Parts.words(16, 0, 1, s), "00 00 0 110");
        }
        for (int n = 1; n < 15; n++) {
            whole("symbol 16 * " + n + " at the end of the bits", 13, 3, dc, Parts.words(16, 0, 1, 16 * n), "00 00 0 110");
        }
        int[] ac = Parts.words(16, 0, 240, 241);
        whole("R beyond the last at the end of the bits", 13, 4, dc, ac, "00 00 00 0 10 10 10 110");
    }

    private static void directOnesOutOfBounds() {
        Check.sentence("4: a coefficient would be none that can be there.");
        int[] ac = Parts.words(16, 0);
        int[] dc = Parts.words(0, 0, 1, 10, 11);
        whole("1023", 0, 1, dc, ac, "110 1111111111 0");
        whole("1023 + 1", 14, 2, dc, ac, "110 1111111111 0 10 1 0");
        whole("-1023 - 1", 0, 2, dc, ac, "110 0000000000 0 10 0 0");
        whole("-1023 - 1 - 1", 14, 3, dc, ac, "110 0000000000 0 10 0 0 10 0 0");
        whole("1024 at once", 14, 1, dc, ac, "1110 10000000000 0");
        whole("2047 at once", 14, 1, dc, ac, "1110 11111111111 0");
        whole("-1024 at once", 0, 1, dc, ac, "1110 01111111111 0");
        whole("-1025 at once", 14, 1, dc, ac, "1110 01111111110 0");
        whole("-2047 at once", 14, 1, dc, ac, "1110 00000000000 0");
        // Shifted by BITS the same numbers are out of bounds earlier.
        for (int bits = 0; bits < 10; bits++) {
            int most = 1023 >> bits;
            String ones = Integer.toBinaryString(most);
            int[] table = Parts.words(0, 0, 1, ones.length());
            int[] head = Parts.join(HEAD, bits == 9 ? Parts.words(0, 0, 1) : table, blocks(194, 2), Parts.scan(0, 0, bits, 1, 0));
            String word = bits == 9 ? "10" : "110";
            Subject x = Parts.open("most with BITS " + bits, head, Parts.data(word + ones + "0"), E);
            Check.due("most with BITS " + bits, x.coefficientAt(0, 1, 0, 0), most << bits);
            Parts.due("more with BITS " + bits, 14, 0, head, Parts.data(word + ones + "101"), E);
            String zeros = ones.replace('1', '0');
            x = Parts.open("least with BITS " + bits, head, Parts.data(word + zeros + "100"), E);
            Check.due("least with BITS " + bits, x.coefficientAt(0, 1, 0, 0), -(most + 1) << bits);
            int[] three = Parts.join(HEAD, bits == 9 ? Parts.words(0, 0, 1) : table, blocks(194, 3),
                Parts.scan(0, 0, bits, 1, 0));
            Parts.due("less with BITS " + bits, 14, 0, three, Parts.data(word + zeros + "100" + "100"), E);
        }
    }

    private static void fourBehindTheBits() {
        Check.sentence("and 4 behind them.");
        int[] ac = Parts.words(16, 0);
        int[] dc = Parts.words(0, 0, 1, 10, 11);
        whole("the bits of 1024 end", 11, 1, dc, ac, "1110 1000");
        whole("the bits of 1024 are just there", 14, 1, dc, ac, "1110 10000000000 1");
        whole("4 ahead of a wrong word", 14, 1, dc, ac, "1110 10000000000 1 1");
        whole("a wrong word ahead of 4", 12, 2, dc, ac, "0 1 1110 10000000000 0");
    }

    private static void filling() {
        Check.sentence("else what must be there (fewer than eight bits, all 1s, of a byte 255 its 0, then the RESTART due, "
            + "or at the end nothing) is not.");
        int[] dc = Parts.words(0, 0);
        int[] ac = Parts.words(16, 0);
        int[] head = Parts.join(HEAD, dc, ac, blocks(192, 1), WHOLE);
        for (int value = 0; value < 64; value++) {
            Parts.due("filled with " + value, value == 63 ? 0 : 15, value == 63 ? -1 : 0, head, new int[] {value}, E);
        }
        for (int many = 1; many <= 8; many++) {
            // So many blocks have twice as many bits: all that are left must be 1s.
            int[] some = Parts.join(HEAD, dc, ac, blocks(192, many), WHOLE);
            String bits = "00".repeat(many);
            Parts.due(many + " blocks", 0, -1, some, Parts.data(bits), E);
            Parts.due(many + " blocks and eight bits", 15, 0, some, Parts.data(bits + "11111111"), E);
            if (many % 4 != 0) {
                Parts.due(many + " blocks and a bit 0", 15, 0, some, Parts.data(bits + "0"), E);
                Parts.due(many + " blocks and at last a bit 0", 15, 0, some,
                    Parts.data(bits + "1".repeat(7 - 2 * many % 8) + "0"), E);
            }
        }
        Parts.due("a byte more", 15, 0, head, new int[] {0x3f, 0x3f}, E);
        Parts.due("a byte 255 more", 15, 0, head, new int[] {0x3f, 255, 0}, E);
        int[] eight = Parts.join(HEAD, dc, ac, blocks(192, 4), WHOLE);
        Parts.due("eight bits and a byte 255", 15, 0, eight, new int[] {0, 255, 0}, E);
        // Seventeen bits: the last byte is a 1 and seven more, so it has a 0 behind it.
        int[] last = Parts.join(HEAD, Parts.words(0, 0, 1, 2), Parts.words(16, 0, 240, 1, 241, 225), blocks(192, 1), WHOLE);
        Parts.due("a last byte 255", 0, -1, last, Parts.data("110 10 10 10 10 11110 1"), E);
        Parts.due("a last byte 255 and another one", 15, 0, last, Parts.data("110 10 10 10 10 11110 1", "11111111"), E);
        int[] refined = Parts.join(HEAD, dc, blocks(194, 4), Parts.scan(0, 0, 2, 1, 0), Parts.data("0000"),
            Parts.scan(0, 0, 0x21, 1, 0));
        Parts.due("direct bits wrongly filled", 15, 1, refined, new int[] {0xfe}, E);
        Parts.due("direct bits", 0, -1, refined, new int[] {0x0f}, E);
        Parts.due("direct bits that are all 1s", 0, -1, refined, new int[] {255, 0}, E);
    }

    private static void restarts() {
        Check.sentence("With an INTERVAL n above 0 there is a RESTART ahead of each UNIT but the first whose number "
            + "(from 0 on) n divides:");
        int[] dc = Parts.words(0, 0, 1);
        int[] ac = Parts.words(16, 0);
        int[] head = Parts.join(HEAD, dc, ac, Parts.interval(2), blocks(192, 5), WHOLE);
        Parts.due("two, two and one", 0, -1, head, Parts.data("00 00", "R0", "00 00", "R1", "00"), E);
        Parts.due("a restart late", 15, 0, head, Parts.data("00 00 00", "R0", "00", "R1", "00"), E);
        Parts.due("a restart early", 11, 0, HEAD, dc, ac, Parts.interval(5), blocks(192, 8), WHOLE,
            Parts.data("00 00 00 00", "R0", "00 00 00 00"), E);
        Parts.due("a restart too few", 15, 0, head, Parts.data("00 00", "R0", "00 00 00"), E);
        Parts.due("a restart too many, at the end", 15, 0, head, Parts.data("00 00", "R0", "00 00", "R1", "00", "R2"), E);
        Parts.due("a restart at once", 11, 0, head, Parts.data("R0", "00 00", "R1", "00 00", "R2", "00"), E);
        Parts.due("one behind another", 11, 0, head, Parts.data("00 00", "R0", "R1", "00 00", "R2", "00"), E);
        Parts.due("none at all", 15, 0, head, Parts.data("00 00 00 00 00"), E);
        int[] four = Parts.join(HEAD, dc, ac, Parts.interval(2), blocks(192, 4), WHOLE);
        Parts.due("none behind the last", 0, -1, four, Parts.data("00 00", "R0", "00 00"), E);
        Parts.due("one behind the last", 15, 0, four, Parts.data("00 00", "R0", "00 00", "R1"), E);
        Check.sentence("the bits before it end with a whole byte, by as many 1s as needed;");
        Parts.due("wrong bits ahead of one", 15, 0, head, Parts.data("00 00 0", "R0", "00 00", "R1", "00"), E);
        Parts.due("eight bits ahead of one", 15, 0, head, Parts.data("00 00 1111 1111 1111", "R0", "00 00", "R1", "00"), E);
        int[] whole = Parts.join(HEAD, dc, ac, Parts.interval(4), blocks(192, 8), WHOLE);
        Parts.due("no bits are needed", 0, -1, whole, Parts.data("00 00 00 00", "R0", "00 00 00 00"), E);
        Parts.due("eight that are not needed", 15, 0, whole, Parts.data("00 00 00 00 11111111", "R0", "00 00 00 00"), E);
        Check.sentence("with the tables of WORDS and the INTERVAL as they are there");
        int[] two = Parts.frame(192, 8, 16, 1, 17, 0, 2, 17, 0);
        int[] first = Parts.join(HEAD, dc, ac, two, WHOLE, Parts.data("00 00"), Parts.interval(1), Parts.scan(0, 63, 0, 2, 0));
        Parts.due("an interval for the second scan", 0, -1, first, Parts.data("00", "R0", "00"), E);
        Parts.due("it is needed there", 15, 1, first, Parts.data("00 00"), E);
        Parts.due("an interval that ends", 0, -1, HEAD, dc, ac, two, Parts.interval(1), WHOLE, Parts.data("00", "R0", "00"),
            Parts.interval(0), Parts.scan(0, 63, 0, 2, 0), Parts.data("00 00"), E);
    }

    private static void predictions() {
        Check.sentence("At the beginning and behind a RESTART the PREDICTION of each component is 0, and there is no RUN.");
        int[] dc = Parts.words(0, 0, 1);
        int[] ac = Parts.words(16, 0);
        Subject x = Parts.open("restarts", HEAD, dc, ac, Parts.interval(2), blocks(192, 5), WHOLE,
            Parts.data("10 1 0 10 1 0", "R0", "10 0 0 0 0", "R1", "0 0"), E);
        int[] want = {1, 2, -1, -1, 0};
        for (int bx = 0; bx < 5; bx++) {
            block("restarts", x, bx, 0, want[bx]);
        }
        int[] two = Parts.frame(192, 8, 24, 1, 17, 0, 2, 17, 0);
        Subject y = Parts.open("of each component", HEAD, dc, ac, Parts.interval(2), two, Parts.scan(0, 63, 0, 1, 0, 2, 0),
            Parts.data("10 1 0 10 0 0", "10 1 0 10 0 0", "R0", "0 0 10 1 0"), E);
        int[][] values = {{1, 2, 0}, {-1, -2, 1}};
        for (int c = 0; c < 2; c++) {
            for (int bx = 0; bx < 3; bx++) {
                Check.due("component " + c + ", block " + bx, y.coefficientAt(c, bx, 0, 0), values[c][bx]);
            }
        }
        Subject z = Parts.open("of each scan", HEAD, dc, ac, Parts.frame(192, 8, 8, 1, 17, 0, 2, 17, 0), WHOLE,
            Parts.data("10 1 0"), Parts.scan(0, 63, 0, 2, 0), Parts.data("10 1 0"), E);
        Check.due("the second scan begins with 0", z.coefficientAt(1, 0, 0, 0), 1);
    }

    private static void unitsAndBlocks() {
        Check.sentence("With several it goes over units, row by row; a UNIT has of each component, the first one first, "
            + "V rows of H blocks.");
        // 17 by 9 with H 2, V 2 and H 1, V 1: two units of five blocks.
        int[] dc = Parts.words(0, 0, 1);
        int[] ac = Parts.words(16, 0);
        int[] frame = Parts.frame(192, 9, 17, 1, 34, 0, 2, 17, 0);
        String unit = "10 1 0 10 1 0 10 1 0 10 1 0";
        Subject x = Parts.open("together", HEAD, dc, ac, frame, Parts.scan(0, 63, 0, 1, 0, 2, 0),
            Parts.data(unit, "10 0 0", unit, "10 0 0"), E);
        int[][] want = {{1, 2, 5, 6}, {3, 4, 7, 8}};
        for (int by = 0; by < 2; by++) {
            for (int bx = 0; bx < 4; bx++) {
                Check.due("together " + bx + " " + by, x.coefficientAt(0, bx, by, 0), want[by][bx]);
            }
        }
        Check.due("the other one", x.coefficientAt(1, 1, 0, 0), -2);
        Parts.due("a restart ahead of a unit", 0, -1, HEAD, dc, ac, Parts.interval(1), frame,
            Parts.scan(0, 63, 0, 1, 0, 2, 0), Parts.data(unit, "0 0", "R0", unit, "0 0"), E);
        // H 1, V 2 and H 2, V 1: columns of two, and rows of two; two rows of units.
        Subject y = Parts.open("tall and wide", HEAD, dc, ac, Parts.frame(192, 17, 16, 1, 18, 0, 2, 33, 0),
            Parts.scan(0, 63, 0, 1, 0, 2, 0), Parts.data("10 1 0".repeat(8)), E);
        for (int k = 0; k < 4; k++) {
            Check.due("tall " + k, y.coefficientAt(0, 0, k, 0), k + 1);
            Check.due("wide " + k, y.coefficientAt(1, k % 2, k / 2, 0), k + 1);
        }
        Check.sentence("With one component it goes over the blocks OF ITS OWN, row by row; each is a UNIT.");
        Subject z = Parts.open("alone", HEAD, dc, ac, frame, WHOLE, Parts.data(unit, "10 1 0 10 1 0"),
            Parts.scan(0, 63, 0, 2, 0), Parts.data("0 0 10 1 0"), E);
        int[][] alone = {{1, 2, 3, 0}, {4, 5, 6, 0}};
        for (int by = 0; by < 2; by++) {
            for (int bx = 0; bx < 4; bx++) {
                Check.due("alone " + bx + " " + by, z.coefficientAt(0, bx, by, 0), alone[by][bx]);
            }
        }
        Check.due("the other one alone", z.coefficientAt(1, 1, 0, 0), 1);
        Parts.due("each is a unit", 0, -1, HEAD, dc, ac, Parts.interval(4), frame, WHOLE,
            Parts.data("00 00 00 00", "R0", "00 00"), Parts.scan(0, 63, 0, 2, 0), Parts.data("00 00"), E);
        // The words of each component are those of its own tables.
        Subject w = Parts.open("tables of each", HEAD, Parts.words(0, 0), Parts.words(1, 1), Parts.words(18, 0),
            Parts.words(19, 2, 0), Parts.frame(192, 8, 8, 1, 17, 0, 2, 17, 0), Parts.scan(0, 63, 0, 1, 0x02, 2, 0x13),
            Parts.data("0 0", "0 1 0 11 10"), E);
        Check.due("direct of the first", w.coefficientAt(0, 0, 0, 0), 0);
        Check.due("direct of the second", w.coefficientAt(1, 0, 0, 0), 1);
        Check.due("another of the second", w.coefficientAt(1, 0, 0, 1), 3);
    }

    private static void manyBits() {
        Check.sentence("10: its BITS are above 9;");
        int[] dc = Parts.words(0, 0);
        for (int bits = 0; bits <= 13; bits++) {
            Parts.due("BITS " + bits, bits > 9 ? 10 : 0, bits > 9 ? 0 : -1, HEAD, dc, blocks(194, 1),
                Parts.scan(0, 0, bits, 1, 0), Parts.data("0"), E);
            Parts.due("BITS " + bits + " of a band", bits > 9 ? 10 : 0, bits > 9 ? 1 : -1, HEAD, dc, Parts.words(16, 0),
                blocks(194, 1), Parts.scan(0, 0, 0, 1, 0), Parts.data("0"), Parts.scan(1, 63, bits, 1, 0), Parts.data("0"), E);
            if (bits > 9) {
                // A refinement to 9 comes too late: its first scan is refused.
                Parts.due("BITS " + bits + ", refined", 10, 0, HEAD, dc, blocks(194, 1), Parts.scan(0, 0, bits, 1, 0),
                    Parts.data("0"), Parts.scan(0, 0, 16 * bits + bits - 1, 1, 0), Parts.data("0"), E);
            }
        }
        Parts.due("ahead of its data", 10, 0, HEAD, dc, blocks(194, 1), Parts.scan(0, 0, 10, 1, 0), E);
    }

    private static void placesOfFaults() {
        Check.sentence("(the place, of 10 to 16, is the number of the SCAN, from 0 on)");
        int[] dc = Parts.words(0, 0);
        int[] ac = Parts.words(16, 0);
        int[] three = Parts.frame(192, 8, 8, 1, 17, 0, 2, 17, 0, 3, 17, 0);
        int[] good = Parts.data("00");
        int[][] wrong = {Parts.data(), Parts.data("1"), Parts.data("00000000")};
        int[] faults = {11, 12, 15};
        for (int scan = 0; scan < 3; scan++) {
            for (int k = 0; k < 3; k++) {
                Parts.due("fault of scan " + scan, faults[k], scan, HEAD, dc, ac, three, WHOLE, scan == 0 ? wrong[k] : good,
                    Parts.scan(0, 63, 0, 2, 0), scan == 1 ? wrong[k] : good, Parts.scan(0, 63, 0, 3, 0),
                    scan == 2 ? wrong[k] : good, E);
            }
        }
        Check.sentence("Then its SCANS, the first one first, all coefficients being 0 ahead of it:");
        Parts.due("the first one that is wrong", 12, 0, HEAD, dc, ac, three, WHOLE, wrong[1], Parts.scan(0, 63, 0, 2, 0),
            wrong[0], Parts.scan(0, 63, 0, 3, 0), wrong[2], E);
        Parts.due("its data ahead of the next one's BITS", 11, 0, HEAD, dc, ac, blocks(194, 1),
            Parts.scan(0, 0, 0, 1, 0), Parts.scan(1, 63, 10, 1, 0), Parts.data("0"), E);
        Parts.due("its BITS ahead of the next one's data", 10, 0, HEAD, dc, ac, blocks(194, 1),
            Parts.scan(0, 0, 10, 1, 0), Parts.data("0"), Parts.scan(1, 63, 0, 1, 0), E);
    }

    private static void refinedDirect() {
        Check.sentence("In a DIRECT REFINEMENT a bit 1 sets the bit BITS of the coefficient.");
        int[] head = Parts.join(HEAD, Parts.words(0, 0, 1, 2), blocks(194, 4), Parts.scan(0, 0, 2, 1, 0),
            Parts.data("10 1 10 0 10 0 110 11"));
        Subject x = Parts.open("direct", head, Parts.scan(0, 0, 0x21, 1, 0), Parts.data("1 0 1 1"),
            Parts.scan(0, 0, 0x10, 1, 0), Parts.data("0 1 1 1"), E);
        // 4, 0, -4, 8: of -4 both lower bits are 0, so it becomes -2, then -1.
        int[] want = {6, 1, -1, 11};
        for (int bx = 0; bx < 4; bx++) {
            block("direct", x, bx, 0, want[bx]);
        }
        // From the least and the greatest that BITS 9 can tell on, all bits to the end.
        int[] nine = Parts.join(HEAD, Parts.words(0, 0, 1, 2), blocks(194, 4), Parts.scan(0, 0, 9, 1, 0),
            Parts.data("10 1", "110 01", "0", "10 1"));
        for (int bits = 8; bits >= 0; bits--) {
            nine = Parts.join(nine, Parts.scan(0, 0, 16 * (bits + 1) + bits, 1, 0), Parts.data("1010"));
        }
        Subject y = Parts.open("BITS 9 to 0", nine, E);
        int[] ends = {1023, -512, -512 + 511, 0};
        for (int bx = 0; bx < 4; bx++) {
            block("BITS 9 to 0", y, bx, 0, ends[bx]);
        }
        int[] least = Parts.join(HEAD, Parts.words(0, 0, 2), blocks(194, 1), Parts.scan(0, 0, 9, 1, 0), Parts.data("10 01"));
        Subject z = Parts.open("the least", least, E);
        block("the least", z, 0, 0, -1024);
    }

    /** The objects of earlier pictures may be used again, but not their coefficients. */
    private static void allAreZeroAtFirst() {
        Check.sentence("all coefficients being 0 ahead of it");
        int[] loud = Parts.join(HEAD, Parts.words(0, 1), Parts.words(16, 1), blocks(192, 2), WHOLE,
            Parts.data("0 1", "0 1".repeat(63), "0 1", "0 1".repeat(63)), E);
        int[] quiet = Parts.join(HEAD, Parts.words(0, 0), Parts.words(16, 0), blocks(192, 2), WHOLE, Parts.data("00 00"), E);
        int[] direct = Parts.join(HEAD, Parts.words(0, 0), blocks(194, 2), Parts.scan(0, 0, 0, 1, 0), Parts.data("00"), E);
        Subject x = new Subject();
        for (int round = 0; round < 3; round++) {
            for (int[] file : new int[][] {loud, loud, quiet, loud, direct, loud, loud, direct}) {
                Parts.give(x, file);
                Check.due("opens", x.openInput(), 0);
                Check.due("others than 0", x.aboutPicture(4), file == loud ? 128 : 0);
                Check.due("amounts", x.aboutPicture(5), file == loud ? 127 + 2 : 0);
            }
            x = new Subject();
        }
    }
}
