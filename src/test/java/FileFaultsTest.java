import java.util.Arrays;

/** Promises 5 and 20: faults 1 to 9 of a file, each with its place, and which of two comes first. */
public final class FileFaultsTest {
    private static final int[] S = Parts.START;
    private static final int[] E = Parts.END;
    /** Of 69, 22, 20 bytes. */
    private static final int[] Q = Parts.quantiser(0, 7);
    private static final int[] DC = Parts.words(0, 0, 1, 11);
    private static final int[] AC = Parts.words(16, 0);
    private static final int[] FRAME = Parts.frame(192, 8, 8, 1, 17, 0);
    private static final int[] PROGRESSIVE = Parts.frame(194, 8, 8, 1, 17, 0);
    private static final int[] SCAN = Parts.scan(0, 63, 0, 1, 0);
    private static final int[] DIRECT = Parts.scan(0, 0, 0, 1, 0);
    /** Both words of one block, 0 and 0. */
    private static final int[] BITS = {0x3f};
    private static final int[] BIT = {0x7f};
    private static final int[] TABLES = Parts.join(S, Q, DC, AC);
    private static final int HEAD = TABLES.length;

    public static void main(String[] args) {
        beginning();
        markers();
        lengths();
        quantisers();
        words();
        frames();
        scans();
        progressiveScans();
        tables();
        data();
        lines();
        tooManyBlocks();
        whatStaysAndWhatIsTold();
        Check.end();
    }

    private static int[] row(int... bytes) {
        return bytes;
    }

    private static void beginning() {
        Parts.due("no byte", 1, 0, row());
        Parts.due("255 alone", 1, 1, row(255));
        Parts.due("another byte alone", 2, 0, row(216));
        Parts.due("another second byte", 2, 0, row(255, 217));
        Parts.due("255 twice", 2, 0, row(255, 255, 216));
        Parts.due("only a beginning", 1, 2, S);
    }

    private static void markers() {
        Parts.due("no 255", 3, 2, S, row(7));
        Parts.due("only 255s", 1, 5, S, row(255, 255, 255));
        for (int code : row(0, 1, 191, 193, 195, 197, 207, 208, 215, 216, 222, 223, 240, 253)) {
            Parts.due("marker " + code, 4, 3, S, row(255, code));
            Parts.due("marker " + code + " behind three 255s", 4, 5, S, row(255, 255, 255, code));
        }
        Parts.due("217 without a frame", 4, 3, S, E);
        Parts.due("217 without a scan", 4, HEAD + FRAME.length + 1, TABLES, FRAME, E);
        Parts.due("a scan ahead of the frame", 4, HEAD + 1, TABLES, SCAN);
        Parts.due("a second frame", 4, HEAD + FRAME.length + 1, TABLES, FRAME, FRAME);
        Parts.due("a second frame of the other kind", 4, HEAD + FRAME.length + 1, TABLES, FRAME, PROGRESSIVE);
        Parts.due("lines at first", 4, 3, S, Parts.lines(8));
        int[] two = Parts.frame(192, 8, 8, 1, 17, 0, 2, 17, 0);
        Parts.due("217 ahead of the second component", 4, HEAD + two.length + SCAN.length + 2,
            TABLES, two, SCAN, BITS, E);
        int[] file = Parts.join(TABLES, FRAME, SCAN, BITS, E);
        Parts.due("a good file", 0, -1, file);
        Parts.due("a good file with more behind it", 0, -1, file, row(1, 2, 3));
        Parts.due("more 255s in markers", 0, -1, S, row(255), Q, row(255, 255), DC, AC, FRAME, row(255), SCAN, BITS,
            row(255, 255), E);
        for (int length = 0; length < file.length; length++) {
            Parts.due("the first " + length, 1, length, Arrays.copyOf(file, length));
        }
    }

    private static void lengths() {
        Parts.due("length 0", 5, 4, S, row(255, 224, 0, 0));
        Parts.due("length 1", 5, 4, S, row(255, 224, 0, 1));
        Parts.due("length 1 behind more 255s", 5, 5, S, row(255, 255, 254, 0, 1));
        Parts.due("length 1, its end", 1, 5, S, row(255, 224, 0));
        Parts.due("length 2 of any contents", 1, 6, S, row(255, 224, 0, 2));
        Parts.due("contents beyond the input", 1, 7, S, row(255, 239, 0, 9, 1));
        Parts.due("no table of quantisers", 5, 4, S, Parts.segment(219));
        Parts.due("no table of words", 5, 4, S, Parts.segment(196));
        Parts.due("a short table of quantisers", 5, 4, S, Parts.segment(219, 0, 1, 1));
        Parts.due("a short table of quantisers, cut off", 1, 7, S, Parts.segmentOf(67, 219, 0));
        Parts.due("fault 5 ahead of 1", 5, 4, S, Parts.segmentOf(3, 219, 0));
        Parts.due("more counts than the length", 5, 4, S, Parts.segmentOf(18, 196, Parts.table(0, 0)));
        Parts.due("more symbols than the length", 5, 4, S, Parts.segmentOf(20, 196, Parts.table(0, 0, 1)));
        Parts.due("a further table that ends at once", 5, 4, S, Parts.segmentOf(21, 196, Parts.table(0, 0)), row(1));
        Parts.due("interval of one byte", 5, 4, S, Parts.segment(221, 0));
        Parts.due("interval of three bytes", 5, 4, S, Parts.segment(221, 0, 0, 0));
        Parts.due("interval of three bytes, cut off", 5, 4, S, Parts.segmentOf(5, 221, 0, 0));
        Parts.due("interval without bytes", 5, 4, S, Parts.segment(221));
        int[] longer = Parts.segment(192, 8, 0, 8, 0, 8, 1, 1, 17, 0, 0);
        Parts.due("a longer frame", 5, 4, S, longer);
        Parts.due("a wrong byte in a longer frame", 6, 14, S, Parts.segment(192, 8, 0, 8, 0, 8, 1, 1, 17, 4, 0));
        Parts.due("a shorter frame", 5, 4, S, Parts.segment(192, 8, 0, 8, 0, 8, 1, 1, 17));
        Parts.due("a longer scan", 5, HEAD + FRAME.length + 2, TABLES, FRAME, Parts.segment(218, 1, 1, 0, 0, 63, 0, 0));
        Parts.due("a shorter scan", 5, HEAD + FRAME.length + 2, TABLES, FRAME, Parts.segment(218, 1, 1, 0, 0, 63));
    }

    private static void quantisers() {
        Parts.due("table 4", 6, 6, S, Parts.quantiser(4, 1));
        Parts.due("step 0", 6, 7, S, Parts.quantiser(3, 0));
        int[] late = Parts.quantiser(2, 255);
        late[68] = 0;
        Parts.due("last step 0", 6, 70, S, late);
        int[] second = Parts.join(S, Parts.segment(219, Parts.join(Arrays.copyOfRange(Q, 4, 69), row(9))));
        Parts.due("second table 9", 6, 71, second);
    }

    private static void words() {
        for (int name : row(4, 15, 20, 32, 255)) {
            Parts.due("table of words " + name, 6, 6, S, Parts.words(name, 0));
        }
        int[] none = new int[17];
        Parts.due("all counts 0", 6, 22, S, Parts.segment(196, none));
        Parts.due("two words of one bit", 6, 7, S, Parts.segment(196, counts(0, 1, 2)));
        Parts.due("a word of two 1s", 6, 8, S, Parts.segment(196, counts(0, 1, 1, 2, 2)));
        Parts.due("four words of two bits", 6, 8, S, Parts.segment(196, counts(16, 2, 4)));
        Parts.due("three words of two bits", 5, 4, S, Parts.segment(196, counts(16, 2, 3)));
        Parts.due("more than 256 words", 6, 16, S, Parts.segment(196, counts(16, 9, 255, 10, 2)));
        int[] all = Parts.join(counts(16, 9, 254, 10, 2), new int[256]);
        for (int k = 0; k < 256; k++) {
            all[17 + k] = 255 - k;
        }
        Parts.due("256 words", 1, 6 + all.length, S, Parts.segment(196, all));
        all[17 + 255] = 255;
        Parts.due("256 words, one symbol twice", 6, 5 + all.length, S, Parts.segment(196, all));
        Parts.due("257 words, and the last one all 1s", 6, 6 + 9, S, Parts.segment(196, counts(16, 8, 255, 9, 2)));
        Parts.due("only the last one all 1s", 6, 6 + 4, S, Parts.segment(196, counts(16, 3, 7, 4, 2, 16, 9)));
        Parts.due("255 words of 16 bits behind one of one", 6, 6 + 18, S,
            Parts.segment(196, Parts.join(counts(16, 1, 1, 16, 255), row(3, 3))));
        Parts.due("a direct symbol 12", 6, 24, S, Parts.words(3, 1, 12));
        Parts.due("a direct symbol 11", 1, 25, S, Parts.words(3, 1, 11));
        Parts.due("a symbol twice", 6, 25, S, Parts.words(19, 5, 6, 5));
        Parts.due("a symbol 255", 1, 24, S, Parts.words(19, 255));
    }

    /** The name and sixteen counts; pairs of a length and its count. */
    private static int[] counts(int name, int... pairs) {
        int[] row = new int[17];
        row[0] = name;
        for (int k = 0; k < pairs.length; k += 2) {
            row[pairs[k]] = pairs[k + 1];
        }
        return row;
    }

    private static void frames() {
        int[][] wrong = {
            {0, 7}, {0, 9}, {2, 65}, {1, 1}, {4, 0}, {4, 65}, {3, 1}, {5, 0}, {5, 5}, {7, 16}, {7, 1}, {7, 19},
            {7, 49}, {7, 35}, {8, 4}, {9, 1}, {10, 0}, {11, 255}};
        int[] places = {0, 0, 2, 2, 4, 4, 4, 5, 5, 7, 7, 7, 7, 7, 8, 9, 10, 11};
        for (int k = 0; k < wrong.length; k++) {
            int[] contents = {8, 0, 64, 0, 64, 2, 1, 17, 0, 2, 34, 3};
            contents[wrong[k][0]] = wrong[k][1];
            Parts.due("frame with byte " + wrong[k][0] + " " + wrong[k][1], 6, 6 + places[k],
                S, Parts.segment(192, contents));
        }
        for (int shape : row(17, 18, 33, 34)) {
            Parts.due("shape " + shape, 1, 2 + FRAME.length, S, Parts.frame(194, 64, 1, 0, shape, 3));
        }
        Parts.due("height in two bytes cut off", 1, 8, S, Parts.segmentOf(11, 192, 8, 9));
    }

    private static void scans() {
        int[] head = Parts.join(TABLES, Parts.frame(192, 8, 8, 5, 17, 0, 7, 17, 0, 6, 17, 0));
        int at = head.length + 4;
        Parts.due("no component", 6, at, head, Parts.segment(218, 0, 0, 63, 0));
        Parts.due("five components", 6, at, head, Parts.segment(218, 5, 5, 0));
        Parts.due("an unknown component", 7, at + 1, head, Parts.scan(0, 63, 0, 1, 0));
        Parts.due("an unknown second one", 7, at + 3, head, Parts.scan(0, 63, 0, 5, 0, 4, 0));
        Parts.due("the same again", 7, at + 3, head, Parts.scan(0, 63, 0, 5, 0, 5, 0));
        Parts.due("out of order", 7, at + 3, head, Parts.scan(0, 63, 0, 7, 0, 5, 0));
        Parts.due("more than there are", 7, at + 7, head, Parts.scan(0, 63, 0, 5, 0, 7, 0, 6, 0, 9, 0));
        Parts.due("tables 4, 0", 6, at + 2, head, Parts.scan(0, 63, 0, 5, 64));
        Parts.due("tables 0, 4", 6, at + 2, head, Parts.scan(0, 63, 0, 5, 4));
        Parts.due("tables 3, 4", 6, at + 4, head, Parts.scan(0, 63, 0, 5, 51, 7, 52));
        Parts.due("FIRST 1", 6, at + 3, head, Parts.scan(1, 63, 0, 5, 0));
        Parts.due("LAST 62", 6, at + 4, head, Parts.scan(0, 62, 0, 5, 0));
        Parts.due("LAST 64", 6, at + 4, head, Parts.scan(0, 64, 0, 5, 0));
        Parts.due("BITS 1", 6, at + 5, head, Parts.scan(0, 63, 1, 5, 0));
        Parts.due("BEFORE 1", 6, at + 5, head, Parts.scan(0, 63, 16, 5, 0));
        int[] one = Parts.join(head, Parts.scan(0, 63, 0, 7, 0), BITS);
        int next = one.length + 4;
        Parts.due("a component again", 7, next + 1, one, Parts.scan(0, 63, 0, 7, 0));
        Parts.due("a component again, the second", 7, next + 3, one, Parts.scan(0, 63, 0, 5, 0, 7, 0));
        Parts.due("that comes behind the last three bytes", 6, next + 6, one, Parts.scan(0, 0, 0, 5, 0, 7, 0));
        Parts.due("and ahead of tables that are not there", 7, next + 3, one, Parts.scan(0, 63, 0, 5, 51, 7, 0));
        Parts.due("the others", 0, -1, one, Parts.scan(0, 63, 0, 5, 0, 6, 0), row(0x0f), E);

        int[] large = Parts.join(TABLES, Parts.frame(192, 8, 8, 1, 34, 0, 2, 34, 0, 3, 33, 0, 4, 17, 0));
        int most = large.length + 4;
        Parts.due("sum 12", 6, most + 7, large, Parts.scan(0, 63, 0, 1, 0, 2, 0, 3, 0, 4, 0));
        Parts.due("sum 10", 1, large.length + 14, large, Parts.scan(0, 63, 0, 1, 0, 2, 0, 3, 0));
        Parts.due("7 ahead of 6 for the sum", 7, most + 7, large, Parts.scan(0, 63, 0, 1, 0, 2, 0, 3, 0, 9, 0));
        Parts.due("6 for the sum ahead of that of the tables", 6, most + 7, large,
            Parts.scan(0, 63, 0, 1, 0, 2, 0, 3, 0, 4, 255));
    }

    private static void progressiveScans() {
        int[] head = Parts.join(TABLES, Parts.frame(194, 8, 8, 1, 17, 0, 2, 17, 0));
        int at = head.length + 4;
        Parts.due("FIRST 64", 6, at + 3, head, Parts.scan(64, 64, 0, 1, 0));
        Parts.due("FIRST 0, LAST 1", 6, at + 4, head, Parts.scan(0, 1, 0, 1, 0));
        Parts.due("FIRST 5, LAST 4", 6, at + 4, head, Parts.scan(5, 4, 0, 1, 0));
        Parts.due("FIRST 5, LAST 64", 6, at + 4, head, Parts.scan(5, 64, 0, 1, 0));
        Parts.due("a band of two", 6, at + 5, head, Parts.scan(1, 64, 0, 1, 0, 2, 0));
        Parts.due("BITS 14", 6, at + 5, head, Parts.scan(0, 0, 14, 1, 0));
        Parts.due("BEFORE 3, BITS 1", 6, at + 5, head, Parts.scan(0, 0, 0x31, 1, 0));
        Parts.due("BEFORE 15, BITS 14", 6, at + 5, head, Parts.scan(0, 0, 0xfe, 1, 0));
        Parts.due("a band ahead of the direct ones", 7, at + 1, head, Parts.scan(1, 1, 0, 1, 0));
        Parts.due("that ahead of what was sent", 7, at + 1, head, Parts.scan(1, 1, 0x10, 1, 0));
        Parts.due("6 for the byte ahead of that", 6, at + 5, head, Parts.scan(1, 1, 0x20, 1, 0));
        Parts.due("a refinement of nothing", 6, at + 5, head, Parts.scan(0, 0, 0x10, 1, 0));
        int[] one = Parts.join(head, Parts.scan(0, 0, 2, 1, 0), BIT);
        int next = one.length + 4;
        Parts.due("sent with BITS 2, again new", 6, next + 5, one, Parts.scan(0, 0, 0, 1, 0));
        Parts.due("sent with BITS 2, BEFORE 1", 6, next + 5, one, Parts.scan(0, 0, 0x10, 1, 0));
        Parts.due("sent with BITS 2, BEFORE 3", 6, next + 5, one, Parts.scan(0, 0, 0x32, 1, 0));
        Parts.due("another that was not sent", 6, next + 7, one, Parts.scan(0, 0, 0x21, 1, 0, 2, 0));
        Parts.due("another that was, with it", 6, next + 7, one, Parts.scan(0, 0, 0, 1, 0, 2, 0));
        Parts.due("217 ahead of the other", 4, one.length + 1, one, E);
        int[] both = Parts.join(one, Parts.scan(0, 0, 0, 2, 0), BIT);
        Parts.due("217 behind it", 0, -1, both, E);
        int[] band = Parts.join(both, Parts.scan(3, 5, 1, 1, 0), BIT);
        int last = band.length + 4;
        int[][] more = {band, Parts.scan(1, 2, 0, 1, 0), BIT, Parts.scan(6, 63, 13, 2, 0), BIT, E};
        Parts.due("BITS 13 are only refused when the scans are read", 10, 4, more);
        more[3] = Parts.scan(6, 63, 10, 2, 0);
        Parts.due("BITS 10 likewise", 10, 4, more);
        more[3] = Parts.scan(6, 63, 9, 2, 0);
        Parts.due("bands side by side", 0, -1, more);
        Parts.due("a band over what was sent", 6, last + 5, band, Parts.scan(2, 3, 0, 1, 0));
        Parts.due("a refinement of more than was sent", 6, last + 5, band, Parts.scan(3, 6, 0x10, 1, 0));
        Parts.due("a refinement of a part", 0, -1, band, Parts.scan(4, 5, 0x10, 1, 0), BIT, E);
        int[] done = Parts.join(band, Parts.scan(4, 5, 0x10, 1, 0), BIT);
        Parts.due("BITS 0 are the end", 6, done.length + 9, done, Parts.scan(4, 4, 0x10, 1, 0));
        Parts.due("BITS 0 are the end of new ones, too", 6, done.length + 9, done, Parts.scan(4, 4, 0, 1, 0));
    }

    private static void tables() {
        int[] frame = Parts.frame(192, 8, 8, 1, 17, 0, 2, 17, 1);
        int[] one = Parts.join(S, Q, DC, frame);
        Parts.due("no AC table", 8, one.length + 6, one, SCAN);
        int[] other = Parts.join(S, Q, AC, frame);
        Parts.due("no DC table", 8, other.length + 6, other, SCAN);
        int[] none = Parts.join(S, DC, AC, frame);
        Parts.due("no quantisers", 8, none.length + 5, none, SCAN);
        int[] neither = Parts.join(S, frame);
        Parts.due("quantisers ahead of words", 8, neither.length + 5, neither, SCAN);
        int[] all = Parts.join(TABLES, frame);
        Parts.due("no quantisers of the second", 8, all.length + 7, all, Parts.scan(0, 63, 0, 1, 0, 2, 0));
        Parts.due("no words of the first", 8, all.length + 6, all, Parts.scan(0, 63, 0, 1, 1, 2, 0));
        Parts.due("8 ahead of 5", 8, all.length + 6, all, Parts.segment(218, 1, 1, 1, 0, 63, 0, 0));
        Parts.due("quantisers behind the frame", 0, -1, all, Parts.quantiser(1, 1),
            Parts.scan(0, 63, 0, 1, 0, 2, 0), row(0x0f), E);
        int[] direct = Parts.join(S, Q, DC, PROGRESSIVE, Parts.scan(0, 0, 1, 1, 3), BIT);
        Parts.due("a direct scan needs no AC table", 0, -1, direct, E);
        Parts.due("a band does", 8, direct.length + 6, direct, Parts.scan(1, 1, 0, 1, 3));
        Parts.due("a band needs no DC table", 0, -1, direct, AC, Parts.scan(1, 1, 0, 1, 0x30), BIT, E);
        Parts.due("a direct refinement needs no table", 0, -1, direct, Parts.scan(0, 0, 0x10, 1, 0x33), BIT, E);
        Parts.due("a band's refinement needs one", 8, direct.length + AC.length + 11 + 6, direct, AC,
            Parts.scan(1, 1, 1, 1, 0), BIT, Parts.scan(1, 1, 0x10, 1, 1));
    }

    private static void data() {
        int[] head = Parts.join(TABLES, FRAME, SCAN);
        int at = head.length;
        Parts.due("no end", 1, at + 3, head, row(1, 2, 3));
        Parts.due("a last 255", 1, at + 2, head, row(1, 255));
        Parts.due("a last 255, 0", 1, at + 3, head, row(1, 255, 0));
        Parts.due("255, 255, 0", 4, at + 2, head, row(255, 255, 0));
        Parts.due("a restart without interval", 4, at + 2, head, row(1, 255, 208));
        Parts.due("not restart 208", 4, HEAD + 6 + FRAME.length + SCAN.length + 1,
            TABLES, Parts.interval(1), FRAME, SCAN, row(255, 209));
        int[] two = Parts.join(TABLES, Parts.interval(1), Parts.frame(192, 8, 64, 1, 17, 0), SCAN);
        Parts.due("two 255s ahead of a restart", 4, two.length + 3, two, BITS, row(255, 255, 208));
        Parts.due("restart 208 twice", 4, two.length + 5, two, BITS, row(255, 208), BITS, row(255, 208));
        Parts.due("restarts in order", 0, -1, two, Parts.data("00", "R0", "00", "R1", "00", "R2", "00", "R3", "00", "R4",
            "00", "R5", "00", "R6", "00"), E);
        int[] wide = Parts.join(TABLES, Parts.interval(1), Parts.frame(192, 16, 64, 1, 17, 0), SCAN);
        Parts.due("208 again behind 215", 0, -1, wide, Parts.data("00", "R0", "00", "R1", "00", "R2", "00", "R3", "00",
            "R4", "00", "R5", "00", "R6", "00", "R7", "00", "R0", "00", "R1", "00", "R2", "00", "R3", "00", "R4", "00",
            "R5", "00", "R6", "00"), E);
        Parts.due("interval 0 is none", 4, two.length + 6 + 2, TABLES, Parts.interval(1), Parts.interval(0),
            Parts.frame(192, 8, 64, 1, 17, 0), SCAN, BITS, row(255, 208), BITS, E);
    }

    private static void lines() {
        int[] frame = Parts.frame(192, 0, 8, 1, 17, 0, 2, 17, 0);
        int[] head = Parts.join(TABLES, frame, SCAN, BITS);
        int[] rest = Parts.join(Parts.scan(0, 63, 0, 2, 0), BITS, E);
        int at = head.length;
        Parts.due("lines", 0, -1, head, Parts.lines(8), rest);
        Parts.due("lines behind more 255s", 0, -1, head, row(255), Parts.lines(3), rest);
        Parts.due("lines 0", 6, at + 5, head, Parts.lines(0), rest);
        Parts.due("lines 65", 6, at + 5, head, Parts.lines(65), rest);
        Parts.due("lines 256", 6, at + 5, head, Parts.lines(256), rest);
        Parts.due("lines of three bytes", 5, at + 2, head, Parts.segment(220, 0, 8, 0), rest);
        Parts.due("a scan instead", 4, at + 1, head, rest);
        Parts.due("anything instead", 4, at + 1, head, Parts.segment(254), Parts.lines(8), rest);
        Parts.due("lines twice", 4, at + 7, head, Parts.lines(8), Parts.lines(8), rest);
        Parts.due("lines behind the second scan", 4, at + 6 + 11 + 1, head, Parts.lines(8),
            Parts.scan(0, 63, 0, 2, 0), BITS, Parts.lines(8), E);
        Parts.due("lines with a height", 4, HEAD + FRAME.length + SCAN.length + 2, TABLES, FRAME, SCAN, BITS,
            Parts.lines(8), E);
        Parts.due("lines ahead of the scan", 4, HEAD + frame.length + 1, TABLES, frame, Parts.lines(8));
        WavePictures x = new WavePictures();
        Parts.give(x, Parts.join(head, Parts.lines(5), rest));
        Check.due("opened", x.openInput(), 0);
        Check.due("its height", x.aboutPicture(1), 5);
    }

    private static void tooManyBlocks() {
        int[] four = Parts.frame(192, 64, 64, 1, 17, 0, 2, 17, 0, 3, 17, 0, 4, 17, 0);
        int[] all = Parts.scan(0, 63, 0, 1, 0, 2, 0, 3, 0, 4, 0);
        Parts.due("256 blocks", 9, -1, TABLES, four, all, row(1, 2), E);
        Parts.due("a fault of the file comes ahead", 1, HEAD + four.length + all.length + 2, TABLES, four, all, row(1, 2));
        int[] fewer = Parts.frame(192, 48, 64, 1, 17, 0, 2, 17, 0, 3, 17, 0, 4, 17, 0);
        Parts.due("192 blocks", 0, -1, TABLES, fewer, all, new int[48], E);
        int[] more = Parts.frame(192, 49, 64, 1, 17, 0, 2, 17, 0, 3, 17, 0, 4, 17, 0);
        Parts.due("224 blocks", 9, -1, TABLES, more, all, new int[56], E);
        int[] unknown = Parts.frame(192, 0, 64, 1, 17, 0, 2, 17, 0, 3, 17, 0, 4, 17, 0);
        Parts.due("256 blocks by lines", 9, -1, TABLES, unknown, all, new int[64], Parts.lines(64), E);
        Parts.due("32 blocks by lines", 0, -1, TABLES, unknown, all, new int[8], Parts.lines(1), E);
    }

    private static void whatStaysAndWhatIsTold() {
        WavePictures x = new WavePictures();
        int[] good = Parts.join(S, Parts.segment(254, 1, 2), Q, DC, AC, FRAME, SCAN, BITS, Parts.segment(239), E);
        Parts.give(x, good);
        Check.due("open", x.openInput(), 0);
        Check.due("scans", x.statusOf(4), 1);
        Check.due("segments", x.statusOf(5), 7);
        x.setCoefficient(0, 0, 0, 5, 77);
        Parts.give(x, Parts.join(TABLES, PROGRESSIVE, DIRECT, BIT, DC, DIRECT, BIT, E));
        int length = x.statusOf(0);
        Check.due("a fault", x.openInput(), 6);
        Check.due("the input stays", x.statusOf(0), length);
        Check.due("the scans stay", x.statusOf(4), 1);
        Check.due("the segments stay", x.statusOf(5), 7);
        Check.due("opened stays", x.statusOf(6), 1);
        Check.due("the picture stays", x.coefficientAt(0, 0, 0, 5), 77);
        Check.due("the steps stay", x.stepAt(0, 63), 7);
        // The steps are those at the first scan with a component.
        int[] later = Parts.join(TABLES, Parts.frame(194, 8, 8, 1, 17, 0, 2, 17, 0), Parts.scan(0, 0, 1, 1, 0), BIT,
            Parts.quantiser(0, 200), Parts.scan(0, 0, 1, 2, 0), BIT, Parts.quantiser(0, 9),
            Parts.scan(0, 0, 0x10, 1, 0, 2, 0), row(0x3f), E);
        Parts.give(x, later);
        Check.due("open another", x.openInput(), 0);
        Check.due("no fault any more", x.statusOf(1), 0);
        Check.due("no place any more", x.statusOf(2), -1);
        Check.due("three scans", x.statusOf(4), 3);
        Check.due("segments", x.statusOf(5), 9);
        Check.due("opened", x.statusOf(6), 2);
        Check.due("step of the first", x.stepAt(0, 1), 7);
        Check.due("step of the second", x.stepAt(1, 1), 200);
        Check.due("no third", x.stepAt(2, 1), -1);
    }
}
