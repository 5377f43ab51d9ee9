/** Promise 5: bands of coefficients and their refinements, read bit by bit, with faults 11 to 15. */
public final class BandsTest {
    private static final int[] E = Parts.END;
    private static final int[] HEAD = Parts.join(Parts.START, Parts.quantiser(0, 3));

    public static void main(String[] args) {
        runs();
        longRuns();
        runsThatGoOn();
        theLastOfABand();
        symbolsOfABand();
        numbersOfABand();
        othersOfABand();
        refinedBits();
        refinedNewOnes();
        refinedZeros();
        refinedRuns();
        symbolsOfARefinement();
        noSuchZero();
        bitsThatEnd();
        refinedToTheLast();
        allLevels();
        Check.end();
    }

    /** A progressive picture of so many blocks whose direct coefficients are all 0; then these other words. */
    private static int[] progressive(int many, int... symbols) {
        return Parts.join(HEAD, Parts.words(0, 0), Parts.words(16, symbols), Parts.frame(194, 8, 8 * many, 1, 17, 0),
            Parts.scan(0, 0, 0, 1, 0), Parts.data("0".repeat(many)));
    }

    private static int[] scan(int first, int last, int both) {
        return Parts.scan(first, last, both, 1, 0);
    }

    private static void block(String what, Subject x, int bx, int... pairs) {
        int[] want = new int[64];
        for (int k = 0; k < pairs.length; k += 2) {
            want[pairs[k]] = pairs[k + 1];
        }
        for (int k = 0; k < 64; k++) {
            Check.due(what + ": coefficient " + k + " of block " + bx, x.coefficientAt(0, bx, 0, k), want[k]);
        }
    }

    private static void runs() {
        Check.sentence("A word 16 * n with n below 15 (S = 0) is a RUN of (1 shifted n to the left) + n bits: "
            + "with this block so many blocks have no further ones that become other than 0");
        int[] head = progressive(4, 0, 1, 16, 32);
        Subject x = Parts.open("runs of two and one", head, scan(1, 63, 1),
            Parts.data("10 1 110 0", "10 0 10 1 0", "0"), E);
        block("runs", x, 0, 1, 2);
        block("runs", x, 1);
        block("runs", x, 2, 1, -2, 2, 2);
        block("runs", x, 3);
        Parts.due("four of one", 0, -1, head, scan(1, 63, 0), Parts.data("0000"), E);
        Parts.due("two of two", 0, -1, head, scan(1, 63, 0), Parts.data("110 0 110 0"), E);
        Parts.due("one of three, one of one", 0, -1, head, scan(1, 63, 0), Parts.data("110 1 0"), E);
        Parts.due("one of four", 0, -1, head, scan(1, 63, 0), Parts.data("1110 00"), E);
        // The run counts from this block on, though it has some that are not 0.
        x = Parts.open("a run of four behind one", head, scan(1, 63, 0), Parts.data("10 1 1110 00"), E);
        block("a run of four behind one", x, 0, 1, 1);
        block("a run of four behind one", x, 3);
    }

    private static void longRuns() {
        Check.sentence("A word 16 * n with n below 15 (S = 0) is a RUN of (1 shifted n to the left) + n bits:");
        // 64 blocks: a run of 2^n + m for each n up to 6, then all others by runs of one.
        int[] dc = Parts.join(HEAD, Parts.words(0, 0));
        int[] frame = Parts.join(Parts.frame(194, 64, 64, 1, 17, 0), Parts.scan(0, 0, 0, 1, 0), Parts.data("0".repeat(64)));
        for (int n = 0; n < 15; n++) {
            int[] head = Parts.join(dc, n == 0 ? Parts.words(16, 0) : Parts.words(16, 0, 16 * n), frame, scan(1, 63, 0));
            String word = n == 0 ? "0" : "10";
            int least = 1 << n;
            int most = 2 * least - 1;
            String zeros = "0".repeat(n);
            String ones = "1".repeat(n);
            if (most <= 64) {
                Parts.due("least of n = " + n, 0, -1, head, Parts.data(word + zeros + "0".repeat(64 - least)), E);
                Parts.due("most of n = " + n, 0, -1, head, Parts.data(word + ones + "0".repeat(64 - most)), E);
                Parts.due("one block fewer, n = " + n, 11, 1, head,
                    Parts.data(word + zeros + "0".repeat(63 - least - (63 - least + n + word.length()) % 8)), E);
            } else {
                boolean just = least == 64;
                Parts.due("least of n = " + n, just ? 0 : 15, just ? -1 : 1, head, Parts.data(word + zeros), E);
                Parts.due("most of n = " + n, 15, 1, head, Parts.data(word + ones), E);
            }
        }
    }

    private static void runsThatGoOn() {
        Check.sentence("5: a RUN goes on beyond a RESTART or the end (seen there, when all blocks up to it have been read);");
        int[] head = progressive(4, 0, 1, 16, 32, 224);
        Parts.due("a run of five", 15, 1, head, scan(1, 63, 0), Parts.data("1110 01"), E);
        Parts.due("a run of two in the last block", 15, 1, head, scan(1, 63, 0), Parts.data("0 0 0 110 0"), E);
        Parts.due("a run of one in the last block", 0, -1, head, scan(1, 63, 0), Parts.data("0 0 0 0"), E);
        Parts.due("a long one", 15, 1, head, scan(1, 63, 0), Parts.data("11110 11111111111111"), E);
        Parts.due("a run and wrong filling", 15, 1, head, scan(1, 63, 0), new int[] {0xe4, 0x00}, E);
        int[] restarts = Parts.join(head, Parts.interval(2), scan(1, 63, 0));
        Parts.due("beyond a restart", 15, 1, restarts, Parts.data("1110 00", "R0", "0 0"), E);
        Parts.due("by one", 15, 1, restarts, Parts.data("0 110 0", "R0", "0"), E);
        Parts.due("up to a restart", 0, -1, restarts, Parts.data("110 0", "R0", "110 0"), E);
        Parts.due("beyond the end, behind a restart", 15, 1, restarts, Parts.data("110 0", "R0", "110 1"), E);
        // A fault in a block up to there is seen first.
        Parts.due("a wrong word ahead of the end", 12, 1, head, scan(1, 63, 0), Parts.data("0 0 111111"), E);
        int[] refined = Parts.join(head, scan(1, 63, 1), Parts.data("0 0 0", "10 1 0"), Parts.interval(2), scan(1, 63, 0x10));
        Parts.due("a refined run beyond a restart", 15, 2, refined, Parts.data("1110 00", "R0", "0 0 1"), E);
        Parts.due("a refined run beyond the end", 15, 2, refined, Parts.data("110 0", "R0", "110 1 1"), E);
        // Forty bits: the run of the third block is far too long, but the bit of the fourth one is missed first.
        Parts.due("seen when all blocks up to it have been read", 11, 2, refined,
            Parts.data("110 0", "R0", "10 1".repeat(7), "11110 00000000000000"), E);
        Parts.due("refined runs that end", 0, -1, refined, Parts.data("110 0", "R0", "110 0 1"), E);
    }

    private static void theLastOfABand() {
        Check.sentence("R goes beyond LAST (for 240, the sixteenth of those, too;");
        int[] head = progressive(4, 0, 1, 240, 241, 17);
        Parts.due("240 to the last", 0, -1, head, scan(1, 16, 0), Parts.data("110 0 0 0"), E);
        Parts.due("240 one beyond the last", 13, 1, head, scan(2, 16, 0), Parts.data("110 0 0 0"), E);
        Parts.due("240 within", 0, -1, head, scan(1, 17, 0), Parts.data("110 0 0 0 0"), E);
        Parts.due("R to the last", 0, -1, head, scan(1, 16, 0), Parts.data("1110 1 0 0 0"), E);
        Parts.due("R one beyond the last", 13, 1, head, scan(1, 15, 0), Parts.data("1110 1 0 0 0"), E);
        Parts.due("R 1 of one", 13, 1, head, scan(63, 63, 0), Parts.data("11110 1 0 0 0"), E);
        Parts.due("R 1 of two", 0, -1, head, scan(62, 63, 0), Parts.data("11110 1 0 0 0"), E);
        // No word for the end of a block whose last one is not 0.
        Subject x = Parts.open("to the last", head, scan(5, 6, 0), Parts.data("10 1 10 0", "11110 1", "0", "0"), E);
        block("to the last", x, 0, 5, 1, 6, -1);
        block("to the last", x, 1, 6, 1);
        Parts.due("a word for that end is one too many", 15, 1, head, scan(5, 6, 0),
            Parts.data("10 1 10 0 0", "11110 1", "0", "0"), E);
    }

    private static void symbolsOfABand() {
        Check.sentence("others: S above 10, in a REFINEMENT above 1;");
        for (int s = 11; s < 16; s++) {
            Parts.due("symbol " + s, 13, 1, progressive(1, 0, s), scan(5, 63, 0), Parts.data("10 00000000000000000"), E);
            Parts.due("symbol 240 + " + s, 13, 1, progressive(1, 0, 240 + s), scan(1, 63, 0), Parts.data("10 000000"), E);
            Parts.due("symbol " + s + " ahead of its bits", 13, 1, progressive(8, 0, s), scan(1, 63, 0),
                Parts.data("000000 10"), E);
        }
        for (int s = 1; s <= 10; s++) {
            Subject x = Parts.open("symbol " + s, progressive(1, 0, s), scan(5, 63, 0),
                Parts.data("10" + "1".repeat(s) + "0"), E);
            block("symbol " + s, x, 0, 5, (1 << s) - 1);
        }
    }

    private static void numbersOfABand() {
        Check.sentence("coefficients of the SCAN become what was written (with BEFORE 0: shifted BITS to the left;");
        for (int bits = 0; bits <= 9; bits++) {
            int size = 10 - bits;
            int most = 1023 >> bits;
            int[] head = progressive(2, 0, size);
            Subject x = Parts.open("most with BITS " + bits, head, scan(1, 63, bits),
                Parts.data("10" + "1".repeat(size) + "10" + "0".repeat(size) + "0 0"), E);
            block("most with BITS " + bits, x, 0, 1, most << bits, 2, -(most << bits));
            if (bits > 0) {
                Check.sentence("4: a coefficient would be none that can be there.");
                int[] more = progressive(2, 0, size + 1);
                Parts.due("more with BITS " + bits, 14, 1, more, scan(1, 63, bits),
                    Parts.data("10 1" + "0".repeat(size) + "0 0"), E);
                Parts.due("less with BITS " + bits, 14, 1, more, scan(1, 63, bits),
                    Parts.data("10 0" + "1".repeat(size) + "0 0"), E);
                Parts.due("size 10 with BITS " + bits, 14, 1, progressive(2, 0, 10), scan(1, 63, bits),
                    Parts.data("10 1" + "0".repeat(9) + "0 0"), E);
                Check.sentence("and 4 behind them.");
                Parts.due("its bits are not all there", 11, 1, progressive(2, 0, 10), scan(1, 63, bits),
                    Parts.data("10 100000"), E);
            }
        }
    }

    private static void othersOfABand() {
        Check.sentence("of a BAND all others of FIRST .. LAST are 0");
        int[] head = progressive(1, 0, 1, 33);
        Subject x = Parts.open("bands side by side", head, scan(10, 20, 0), Parts.data("110 1 0"),
            scan(1, 9, 1), Parts.data("10 0 110 1 0"), scan(21, 63, 0), Parts.data("0"), E);
        block("bands side by side", x, 0, 12, 1, 1, -2, 4, 2);
        // Direct ones and bands do not touch each other.
        Subject y = Parts.open("direct ones stay", HEAD, Parts.words(0, 1), Parts.words(16, 1, 0),
            Parts.frame(194, 8, 8, 1, 17, 0), Parts.scan(0, 0, 1, 1, 0), Parts.data("0 1"), scan(1, 1, 0), Parts.data("0 0"),
            Parts.scan(0, 0, 0x10, 1, 0), Parts.data("1"), E);
        block("direct ones stay", y, 0, 0, 3, 1, -1);
    }

    /** Blocks with 4 at 1, -4 at 4, 4 at 6; with -4 at 2; and with none; by BITS 2 of the band 1 .. 8. */
    private static int[] three() {
        return Parts.join(progressive(3, 0, 1, 17, 33, 16, 240, 2), scan(1, 8, 2),
            Parts.data("10 1", "1110 0", "110 1", "0", "110 0 0 0"));
    }

    private static void refinedBits() {
        Check.sentence("each that is not 0 has a bit, which, if it is 1 and the bit BITS of its amount is 0, sets that;");
        Subject x = Parts.open("a first scan", three(), E);
        block("a first scan", x, 0, 1, 4, 4, -4, 6, 4);
        block("a first scan", x, 1, 2, -4);
        block("a first scan", x, 2);
        int[] next = scan(1, 8, 0x21);
        x = Parts.open("no bits set", three(), next, Parts.data("0 000", "0 0", "0"), E);
        block("no bits set", x, 0, 1, 4, 4, -4, 6, 4);
        block("no bits set", x, 1, 2, -4);
        x = Parts.open("all bits set", three(), next, Parts.data("0 111", "0 1", "0"), E);
        block("all bits set", x, 0, 1, 6, 4, -6, 6, 6);
        block("all bits set", x, 1, 2, -6);
        x = Parts.open("some bits set", three(), next, Parts.data("0 010", "0 1", "0"), E);
        block("some bits set", x, 0, 1, 4, 4, -6, 6, 4);
    }

    private static void refinedNewOnes() {
        Check.sentence("of those that are 0 R are passed over, the next one is the end (with S = 1 it becomes 1 shifted BITS "
            + "to the left, with its sign; for 240 it stays 0).");
        int[] next = scan(1, 8, 0x21);
        // 17 passes over 2 and ends at 3, with a bit for 1; then a run of three with bits.
        Subject x = Parts.open("17", three(), next, Parts.data("110 0 1", "11110 1", "0 1", "1"), E);
        block("17", x, 0, 1, 6, 3, -2, 4, -4, 6, 6);
        block("17", x, 1, 2, -6);
        block("17", x, 2);
        // 1 at once: the sign, then the bit of the first one, then it ends at 2.
        x = Parts.open("1", three(), next, Parts.data("10 1 0", "0 1 0", "0 1", "10 0 0"), E);
        block("1", x, 0, 1, 4, 2, 2, 4, -6, 6, 4);
        block("1", x, 2, 1, -2);
        // Two behind each other: from where the first one ended on.
        x = Parts.open("1 and 1", three(), next, Parts.data("10 1 0 10 0", "10 1 1 0 1", "0 0", "0"), E);
        block("1 and 1", x, 0, 1, 4, 2, 2, 3, -2, 4, -6, 5, 2, 6, 6);
        // Those that became other than 0 in this scan have no bit in it.
        x = Parts.open("all of them", progressive(1, 0, 1), scan(1, 4, 1), Parts.data("0"), scan(1, 4, 0x10),
            Parts.data("10 1 10 0 10 1 10 0"), E);
        block("all of them", x, 0, 1, 1, 2, -1, 3, 1, 4, -1);
    }

    private static void refinedZeros() {
        Check.sentence("for 240 it stays 0");
        int[] sixteen = Parts.join(progressive(1, 0, 1, 240, 241), scan(1, 40, 1), Parts.data("10 1 0"));
        Subject x = Parts.open("240", sixteen, scan(1, 40, 0x10), Parts.data("110 1 10 0 0"), E);
        block("240 passes over 2 .. 17", x, 0, 1, 3, 18, -1);
        x = Parts.open("240 twice", sixteen, scan(1, 40, 0x10), Parts.data("110 0 110 10 1 0"), E);
        block("240 twice", x, 0, 1, 2, 34, 1);
        x = Parts.open("240 to the last", sixteen, scan(1, 17, 0x10), Parts.data("110 1"), E);
        block("240 to the last", x, 0, 1, 3);
        Parts.due("240 beyond the last", 13, 2, sixteen, scan(1, 16, 0x10), Parts.data("110 1"), E);
        x = Parts.open("241 to the last", sixteen, scan(1, 17, 0x10), Parts.data("1110 0 1"), E);
        block("241 to the last", x, 0, 1, 3, 17, -1);
        Parts.due("241 beyond the last", 13, 2, sixteen, scan(1, 16, 0x10), Parts.data("1110 0 1"), E);
        // Others within the sixteen have their bits, and do not count.
        int[] within = Parts.join(progressive(1, 0, 1, 240, 49), scan(1, 40, 1), Parts.data("1110 1", "1110 1", "0"));
        x = Parts.open("240 over others", within, scan(1, 40, 0x10), Parts.data("110 0 1 10 1 0"), E);
        block("240 over others", x, 0, 4, 2, 8, 3, 19, 1);
    }

    private static void refinedRuns() {
        Check.sentence("(those that are not 0 have their bits)");
        int[] next = scan(1, 8, 0x21);
        Subject x = Parts.open("a run of three", three(), next, Parts.data("11110 1", "101", "1"), E);
        block("a run of three", x, 0, 1, 6, 4, -4, 6, 6);
        block("a run of three", x, 1, 2, -6);
        x = Parts.open("a run of two behind a new one", three(), next, Parts.data("1110 1 01", "11110 0", "1", "0", "0"), E);
        block("a run of two behind a new one", x, 0, 1, 4, 4, -6, 5, 2, 6, 6);
        block("a run of two behind a new one", x, 1, 2, -4);
        // A run that ends with the block ahead of the last one.
        x = Parts.open("a run of two", three(), next, Parts.data("11110 0", "111", "0", "10 1 0"), E);
        block("a run of two", x, 1, 2, -4);
        block("a run of two", x, 2, 1, 2);
    }

    private static void symbolsOfARefinement() {
        Check.sentence("3: a SYMBOL that can not be there: direct: above 11; others: S above 10, in a REFINEMENT above 1;");
        for (int s = 2; s < 16; s++) {
            for (int r = 0; r < 16; r += 5) {
                int[] head = Parts.join(progressive(2, 0, 1, 16 * r + s), scan(1, 63, 1), Parts.data("10 1 0 0"));
                Parts.due("symbol " + (16 * r + s), 13, 2, head, scan(1, 63, 0x10), Parts.data("110 1111111111111"), E);
                Parts.due("symbol " + (16 * r + s) + " ahead of all bits", 13, 2, head, scan(1, 63, 0x10),
                    Parts.data("0 1 10 1 110"), E);
            }
        }
    }

    private static void noSuchZero() {
        Check.sentence("in a REFINEMENT: there is no such 0 up to LAST, seen when all up to it have been gone over, with their bits).");
        int[] next = scan(1, 8, 0x21);
        Parts.due("no sixteenth 0", 13, 2, three(), next, Parts.data("111110 111 0"), E);
        Parts.due("no third 0 behind 5", 13, 2, three(), next, Parts.data("1110 1 00", "1110 1 0"), E);
        Parts.due("a third 0 would be the last", 0, -1, three(), next, Parts.data("1110 1 00", "110 1 0", "11110 0 1"), E);
        // All eight are others than 0: none of them can be the end.
        int[] full = Parts.join(progressive(1, 0, 1, 240), scan(1, 8, 2), Parts.data("10 1".repeat(8)));
        Parts.due("no 0 at all", 13, 2, full, next, Parts.data("10 1 11111111"), E);
        Parts.due("no 0 at all, and a bit is not there", 11, 2, full, next, Parts.data("10 1 1111 1"), E);
        Parts.due("no 0 at all, by 240", 13, 2, full, next, Parts.data("110 11111111"), E);
        Parts.due("by 240, and a bit is not there", 11, 2, full, next, Parts.data("110 11111"), E);
        Parts.due("the sign is not there", 11, 2, Parts.join(progressive(4, 0, 1), scan(1, 8, 2), Parts.data("0000")), next,
            Parts.data("0 0 0", "10 1 10"), E);
        Parts.due("only bits", 0, -1, full, next, Parts.data("0 10101010"), E);
    }

    private static void bitsThatEnd() {
        Check.sentence("1: the bits (up to a RESTART, or the end of the DATA) end where one is needed.");
        int[] head = progressive(4, 0, 1, 16, 32);
        Parts.due("a run without its bits", 11, 1, head, scan(1, 63, 0), Parts.data("0 10 1 1110"), E);
        Parts.due("a run with some of its bits", 11, 1, head, scan(1, 63, 0), Parts.data("10 1 1110 1"), E);
        Parts.due("a band without bits", 11, 1, head, scan(1, 63, 0), E);
        int[] next = scan(1, 8, 0x21);
        Parts.due("a refinement without bits", 11, 2, three(), next, E);
        Parts.due("the bits of a run are not there", 11, 2, three(), next, Parts.data("11110 1 11"), E);
        Parts.due("the bits of a run in another block are not there", 11, 2, three(), next,
            Parts.data("110 1 0", "10 1 0", "11110 1 0"), E);
        Parts.due("the bits up to a new one are not there", 11, 2, three(), next, Parts.data("0 101 110 1"), E);
        Parts.due("all are there", 0, -1, three(), next, Parts.data("0 101 0 1 0"), E);
    }

    private static void refinedToTheLast() {
        Check.sentence("coefficients are gone over from where one is");
        int[] small = Parts.join(progressive(2, 0, 1, 17), scan(1, 2, 1), Parts.data("0 0"));
        // A block all of whose coefficients have been gone over needs no word for its end.
        Subject x = Parts.open("up to the last", small, scan(1, 2, 0x10), Parts.data("110 1 10 0 0"), E);
        block("up to the last", x, 0, 2, 1);
        block("up to the last", x, 1, 1, -1);
        // Behind the last 0 there are others: they have their bits only by a further word.
        int[] behind = Parts.join(progressive(1, 0, 1, 17), scan(1, 2, 1), Parts.data("110 1"));
        x = Parts.open("others behind the last new one", behind, scan(1, 2, 0x10), Parts.data("10 1 0 1"), E);
        block("others behind the last new one", x, 0, 1, 1, 2, 3);
        Parts.due("without that word", 12, 2, behind, scan(1, 2, 0x10), Parts.data("10 1"), E);
    }

    /** From BITS 9 to 0: a coefficient that is there from the first, one that comes at each level, and one never. */
    private static void allLevels() {
        Check.sentence("BITS are 0 .. 9.");
        int[] head = Parts.join(progressive(1, 0, 1), scan(1, 63, 9), Parts.data("10 1 0"));
        for (int bits = 8; bits >= 0; bits--) {
            // Each level one more: the bits of those that are there lie behind the sign of the new one.
            head = Parts.join(head, scan(1, 63, 16 * (bits + 1) + bits), Parts.data("10 0" + "1".repeat(9 - bits) + "0"));
        }
        Subject x = Parts.open("BITS 9 to 0", head, E);
        int[] pairs = new int[20];
        for (int k = 0; k < 10; k++) {
            pairs[2 * k] = k + 1;
            pairs[2 * k + 1] = k == 0 ? 1023 : -((1 << 10 - k) - 1);
        }
        block("BITS 9 to 0", x, 0, pairs);
    }
}
