/** Promise 5: the segments of scans and where their data end, with faults 1, 4, 6, 7 and 8. */
public final class ScansTest {
    private static final int[] S = Tiny.S;
    private static final int[] E = Tiny.E;
    private static final int[] TABLES = Tiny.TABLES;
    private static final int HEAD = Tiny.HEAD;

    public static void main(String[] args) {
        howMany();
        namesOfComponents();
        tablesOfComponents();
        theSum();
        theSumAndOtherFaults();
        sequential();
        again();
        progressiveBands();
        progressiveBytes();
        bandsAheadOfDirect();
        whatWasSent();
        severalThatWereSent();
        quantisersThatAreNot();
        wordsThatAreNot();
        orderOfFaults();
        endOfData();
        restartsInData();
        manyScans();
        Check.end();
    }

    private static int[] row(int... bytes) {
        return bytes;
    }

    private static int[] three() {
        return Parts.join(TABLES, Parts.frame(192, 8, 8, 5, 17, 0, 7, 17, 0, 6, 17, 0));
    }

    private static void howMany() {
        Check.sentence("218 SCAN, behind the FRAME: a byte, 1 .. 4 components;");
        int[] head = three();
        int at = head.length + 4;
        for (int many : row(0, 5, 6, 16, 255)) {
            Parts.due(many + " components", 6, at, head, Parts.segment(218, many, 5, 0, 0, 63, 0));
        }
        Parts.due("one", 0, -1, head, Parts.scan(0, 63, 0, 5, 0), Tiny.BITS, Parts.scan(0, 63, 0, 7, 0), Tiny.BITS,
            Parts.scan(0, 63, 0, 6, 0), Tiny.BITS, E);
        Parts.due("three", 0, -1, head, Parts.scan(0, 63, 0, 5, 0, 7, 0, 6, 0), Parts.data("000000"), E);
        Parts.due("four", 0, -1, TABLES, Parts.frame(192, 8, 8, 5, 17, 0, 7, 17, 0, 6, 17, 0, 0, 17, 0),
            Parts.scan(0, 63, 0, 5, 0, 7, 0, 6, 0, 0, 0), Parts.data("00000000"), E);
    }

    private static void namesOfComponents() {
        Check.sentence("7: a component in a SCAN that the FRAME does not have, or out of order "
            + "(its name; ahead of 6 for the sum).");
        Check.sentence("for each: the name of one of the FRAME's, in the FRAME's order;");
        int[] head = three();
        int at = head.length + 4;
        for (int name : row(0, 1, 4, 8, 255)) {
            Parts.due("no component " + name, 7, at + 1, head, Parts.scan(0, 63, 0, name, 0));
            Parts.due("no second component " + name, 7, at + 3, head, Parts.scan(0, 63, 0, 5, 0, name, 0));
            Parts.due("no third component " + name, 7, at + 5, head, Parts.scan(0, 63, 0, 5, 0, 7, 0, name, 0));
        }
        Parts.due("the same again", 7, at + 3, head, Parts.scan(0, 63, 0, 5, 0, 5, 0));
        Parts.due("the first one again", 7, at + 5, head, Parts.scan(0, 63, 0, 5, 0, 7, 0, 5, 0));
        Parts.due("out of order", 7, at + 3, head, Parts.scan(0, 63, 0, 7, 0, 5, 0));
        int[] names = {5, 7, 6};
        for (int first = 0; first < 3; first++) {
            for (int second = 0; second < 3; second++) {
                int[] scan = Parts.scan(0, 63, 0, names[first], 0, names[second], 0);
                if (second > first) {
                    Parts.due("in order", 1, head.length + scan.length, head, scan);
                } else {
                    Parts.due("components " + first + ", " + second, 7, at + 3, head, scan);
                }
                for (int third = 0; third < 3 && second > first; third++) {
                    int[] more = Parts.scan(0, 63, 0, names[first], 0, names[second], 0, names[third], 0);
                    boolean good = third > second;
                    Parts.due("components " + first + ", " + second + ", " + third, good ? 1 : 7,
                        good ? head.length + more.length : at + 5, head, more);
                }
            }
        }
        Parts.due("by their names these are in order", 7, at + 5, head, Parts.scan(0, 63, 0, 5, 0, 6, 0, 7, 0));
        Parts.due("in the frame's order with one left out", 0, -1, head, Parts.scan(0, 63, 0, 5, 0, 6, 0),
            Parts.data("0000"), Parts.scan(0, 63, 0, 7, 0), Tiny.BITS, E);
        Parts.due("more than there are", 7, at + 7, head, Parts.scan(0, 63, 0, 5, 0, 7, 0, 6, 0, 9, 0));
        Parts.due("a name ahead of its tables", 7, at + 1, head, Parts.segment(218, 1, 9, 255, 0, 63, 0));
        Parts.due("tables ahead of the next name", 6, at + 2, head, Parts.segment(218, 2, 5, 255, 9, 0, 0, 63, 0));
        Parts.due("a name ahead of the end of the input", 7, at + 1, head, row(255, 218, 0, 8, 1, 9));
    }

    private static void tablesOfComponents() {
        Check.sentence("a byte 16 * its DC table + its AC table (0 .. 3 each);");
        int[] all = new int[0];
        for (int t = 0; t < 4; t++) {
            all = Parts.join(all, Parts.words(t, 0), Parts.words(16 + t, 0));
        }
        int[] head = Parts.join(S, Tiny.Q, all, Tiny.FRAME);
        for (int tables = 0; tables < 256; tables++) {
            boolean good = tables >> 4 <= 3 && (tables & 15) <= 3;
            Parts.due("tables " + tables, good ? 0 : 6, good ? -1 : head.length + 6, head,
                Parts.scan(0, 63, 0, 1, tables), Tiny.BITS, E);
        }
        int at = three().length + 4;
        Parts.due("of the second", 6, at + 4, three(), Parts.scan(0, 63, 0, 5, 51, 7, 52));
        Parts.due("of the third", 6, at + 6, three(), Parts.scan(0, 63, 0, 5, 51, 7, 51, 6, 64));
    }

    /** Shapes of four components, and the place of the name with which the sum is above 10, or 0. */
    private static final int[][] SUMS = {
        {0x22, 0x22, 0x21, 0x11, 7}, {0x22, 0x22, 0x11, 0x11, 0}, {0x22, 0x22, 0x22, 0x11, 5}, {0x22, 0x22, 0x22, 0x22, 5},
        {0x22, 0x12, 0x21, 0x12, 0}, {0x22, 0x22, 0x12, 0x21, 7}, {0x11, 0x22, 0x22, 0x12, 7}, {0x11, 0x11, 0x22, 0x22, 0},
        {0x21, 0x11, 0x22, 0x22, 7}, {0x12, 0x12, 0x12, 0x22, 0}, {0x11, 0x11, 0x11, 0x11, 0}};

    private static void theSum() {
        Check.sentence("With more than one component the sum of their H * V is at most 10.");
        for (int[] w : SUMS) {
            int[] head = Parts.join(TABLES,
                Parts.frame(192, 8, 8, 1, w[0], 0, 2, w[1], 0, 3, w[2], 0, 4, w[3], 0));
            int sum = 0;
            for (int c = 0; c < 4; c++) {
                sum += (w[c] >> 4) * (w[c] & 15);
            }
            boolean good = w[4] == 0;
            Parts.due("sum " + sum, good ? 0 : 6, good ? -1 : head.length + 4 + w[4], head,
                Parts.scan(0, 63, 0, 1, 0, 2, 0, 3, 0, 4, 0), Parts.data("00".repeat(good ? sum : 0)), E);
        }
        sumsOfSome();
        int[] ten = Parts.join(TABLES, Parts.frame(192, 8, 8, 1, 34, 0, 2, 34, 0, 3, 33, 0, 4, 17, 0));
        Parts.due("sum 10 of three", 0, -1, ten, Parts.scan(0, 63, 0, 1, 0, 2, 0, 3, 0), Parts.data("00".repeat(10)),
            Parts.scan(0, 63, 0, 4, 0), Tiny.BITS, E);
        Parts.due("sum 9 of three", 0, -1, ten, Parts.scan(0, 63, 0, 1, 0, 2, 0, 4, 0), Parts.data("00".repeat(9)),
            Parts.scan(0, 63, 0, 3, 0), Tiny.BITS, E);
        // The sum is that of the scan's components, not of the frame's.
        Parts.due("one of each of 2 by 2", 0, -1, TABLES, Parts.frame(192, 8, 8, 1, 34, 0, 2, 34, 0, 3, 34, 0),
            Parts.scan(0, 63, 0, 1, 0, 2, 0), Parts.data("00".repeat(8)), Parts.scan(0, 63, 0, 3, 0), Tiny.BITS, E);
        Parts.due("of a progressive frame", 6, TABLES.length + 22 + 4 + 7, TABLES,
            Parts.frame(194, 8, 8, 1, 34, 0, 2, 34, 0, 3, 33, 0, 4, 17, 0), Parts.scan(0, 0, 0, 1, 0, 2, 0, 3, 0, 4, 0));
    }

    /** All choices of two or more components of some frames: it is their own shapes that count. */
    private static void sumsOfSome() {
        int[][] frames = {{0x11, 0x22, 0x22, 0x22}, {0x22, 0x11, 0x22, 0x22}, {0x22, 0x22, 0x11, 0x22}, {0x21, 0x22, 0x12, 0x22},
            {0x22, 0x21, 0x22, 0x12}};
        for (int[] shapes : frames) {
            int[] head = Parts.join(TABLES, Parts.frame(192, 8, 8, 1, shapes[0], 0, 2, shapes[1], 0, 3, shapes[2], 0, 4, shapes[3], 0));
            for (int choice = 1; choice < 16; choice++) {
                int[] members = new int[0];
                int sum = 0;
                int wrong = 0;
                for (int c = 0; c < 4; c++) {
                    if ((choice >> c & 1) == 1) {
                        members = Parts.join(members, row(c + 1, 0));
                        sum += (shapes[c] >> 4) * (shapes[c] & 15);
                        wrong = wrong == 0 && sum > 10 ? members.length - 1 : wrong;
                    }
                }
                int[] scan = Parts.scan(0, 63, 0, members);
                Parts.due("choice " + choice, wrong == 0 ? 1 : 6, wrong == 0 ? head.length + scan.length : head.length + 4 + wrong,
                    head, scan);
            }
        }
    }

    private static void theSumAndOtherFaults() {
        Check.sentence("the name with which the sum of H * V is above 10.");
        int[] large = Parts.join(TABLES, Parts.frame(192, 8, 8, 1, 34, 0, 2, 34, 0, 3, 33, 0, 4, 17, 0));
        int at = large.length + 4;
        Parts.due("7 ahead of it", 7, at + 7, large, Parts.scan(0, 63, 0, 1, 0, 2, 0, 3, 0, 9, 0));
        Parts.due("7 for the order ahead of it", 7, at + 7, large, Parts.scan(0, 63, 0, 1, 0, 2, 0, 3, 0, 2, 0));
        Parts.due("it ahead of the tables", 6, at + 7, large, Parts.scan(0, 63, 0, 1, 0, 2, 0, 3, 0, 4, 255));
        Parts.due("it ahead of the end", 6, at + 7, large, row(255, 218, 0, 14, 4, 1, 0, 2, 0, 3, 0, 4));
    }

    private static void sequential() {
        Check.sentence("SCANS of a sequential FRAME: 0, 63, 0, and none has a component that was in one before.");
        int[] head = three();
        int at = head.length + 4;
        for (int first : row(1, 2, 62, 63, 64, 255)) {
            Parts.due("FIRST " + first, 6, at + 3, head, Parts.scan(first, 63, 0, 5, 0));
            Parts.due("FIRST " + first + " of three", 6, at + 7, head, Parts.scan(first, 63, 0, 5, 0, 7, 0, 6, 0));
        }
        for (int last : row(0, 1, 62, 64, 255)) {
            Parts.due("LAST " + last, 6, at + 4, head, Parts.scan(0, last, 0, 5, 0));
        }
        for (int both : row(1, 9, 13, 16, 0x21, 255)) {
            Parts.due("BEFORE and BITS " + both, 6, at + 5, head, Parts.scan(0, 63, both, 5, 0));
        }
        Parts.due("FIRST ahead of LAST", 6, at + 3, head, Parts.scan(1, 5, 1, 5, 0));
        Parts.due("LAST ahead of BITS", 6, at + 4, head, Parts.scan(0, 5, 1, 5, 0));
    }

    private static void again() {
        Check.sentence("of its components, one behind the other: 7 if it was in a SCAN before (sequential), "
            + "or FIRST is above 0 and there was none with FIRST 0 (its name);");
        int[] head = Parts.join(three(), Parts.scan(0, 63, 0, 7, 0), Tiny.BITS);
        int at = head.length + 4;
        Parts.due("a component again", 7, at + 1, head, Parts.scan(0, 63, 0, 7, 0));
        Parts.due("a component again, the second", 7, at + 3, head, Parts.scan(0, 63, 0, 5, 0, 7, 0));
        Parts.due("a component again, the first", 7, at + 1, head, Parts.scan(0, 63, 0, 7, 0, 6, 0));
        Parts.due("only when the last three bytes have been read", 6, at + 6, head, Parts.scan(0, 0, 0, 5, 0, 7, 0));
        Parts.due("the last of these", 6, at + 7, head, Parts.scan(0, 63, 1, 5, 0, 7, 0));
        Parts.due("the input ends ahead of these", 1, at + 5, head, row(255, 218, 0, 8, 1, 7, 0, 0, 63));
        Parts.due("ahead of tables that are not there", 7, at + 3, head, Parts.scan(0, 63, 0, 5, 51, 7, 0));
        Parts.due("the others", 0, -1, head, Parts.scan(0, 63, 0, 5, 0, 6, 0), Parts.data("0000"), E);
    }

    private static int[] pair() {
        return Parts.join(TABLES, Parts.frame(194, 8, 8, 1, 17, 0, 2, 17, 0));
    }

    private static void progressiveBands() {
        Check.sentence("Of a progressive one: FIRST is 0 and LAST 0, or FIRST is 1 .. 63, LAST FIRST .. 63, "
            + "and there is just one component, of which there was a SCAN with FIRST 0 before.");
        int[] head = Parts.join(pair(), Parts.scan(0, 0, 0, 1, 0, 2, 0), Parts.data("00"));
        int at = head.length + 4;
        for (int first : row(64, 65, 128, 255)) {
            Parts.due("FIRST " + first, 6, at + 3, head, Parts.scan(first, 63, 0, 1, 0));
        }
        int[] direct = pair();
        for (int last : row(1, 5, 63, 64, 255)) {
            Parts.due("FIRST 0, LAST " + last, 6, direct.length + 8, direct, Parts.scan(0, last, 0, 1, 0));
        }
        int[][] wrong = {{1, 0}, {5, 4}, {5, 0}, {63, 62}, {1, 64}, {63, 64}, {5, 255}};
        for (int[] w : wrong) {
            Parts.due("FIRST " + w[0] + ", LAST " + w[1], 6, at + 4, head, Parts.scan(w[0], w[1], 0, 1, 0));
        }
        int[][] right = {{1, 1}, {1, 63}, {5, 5}, {5, 6}, {62, 63}, {63, 63}};
        for (int[] w : right) {
            Parts.due("FIRST " + w[0] + ", LAST " + w[1], 0, -1, head, Parts.scan(w[0], w[1], 0, 1, 0), Tiny.BIT, E);
        }
        Check.sentence("so is FIRST above 0 with more than one component.)");
        Parts.due("a band of two", 6, at + 5, head, Parts.scan(1, 63, 0, 1, 0, 2, 0));
        Parts.due("as soon as it is read", 6, at + 5, head, Parts.scan(1, 64, 255, 1, 0, 2, 0));
        Parts.due("at the end of the input", 6, at + 5, head, row(255, 218, 0, 10, 2, 1, 0, 2, 0, 1));
        Parts.due("direct ones of two", 0, -1, direct, Parts.scan(0, 0, 0, 1, 0, 2, 0), Parts.data("00"), E);
    }

    private static void progressiveBytes() {
        Check.sentence("(BEFORE that is neither 0 nor BITS + 1, and BITS above 13, are 6 as soon as that byte is read;");
        int[] head = pair();
        int at = head.length + 4;
        for (int before = 0; before < 16; before++) {
            for (int bits = 0; bits < 16; bits++) {
                // Nothing was sent: BEFORE 0 is right, and any other is 6, sooner or later.
                boolean good = before == 0 && bits <= 13;
                int fault = !good ? 6 : bits > 9 ? 10 : 0;
                Parts.due("BEFORE " + before + ", BITS " + bits, fault, !good ? at + 5 : bits > 9 ? 0 : -1, head,
                    Parts.scan(0, 0, 16 * before + bits, 1, 0), Tiny.BIT, Parts.scan(0, 0, 0, 2, 0), Tiny.BIT, E);
                // A band ahead of the direct ones is 7, unless the byte itself is none that can be there.
                boolean can = bits <= 13 && (before == 0 || before == bits + 1);
                Parts.due("a band, BEFORE " + before + ", BITS " + bits, can ? 7 : 6, can ? at + 1 : at + 5, head,
                    Parts.scan(1, 63, 16 * before + bits, 1, 0));
            }
        }
        Parts.due("ahead of 5", 6, at + 5, head, Parts.segment(218, 1, 1, 0, 0, 0, 14, 0));
    }

    private static void bandsAheadOfDirect() {
        Check.sentence("7 if it was in a SCAN before (sequential), or FIRST is above 0 and there was none with FIRST 0 (its name);");
        int[] head = pair();
        int at = head.length + 4;
        Parts.due("a band at once", 7, at + 1, head, Parts.scan(1, 63, 0, 1, 0));
        int[] one = Parts.join(head, Parts.scan(0, 0, 2, 1, 0), Tiny.BIT);
        Parts.due("a band of the other", 7, one.length + 5, one, Parts.scan(1, 63, 0, 2, 0));
        Parts.due("7 ahead of 6 for what was sent", 7, one.length + 5, one, Parts.scan(1, 63, 0x10, 2, 0));
        Parts.due("7 ahead of 8", 7, one.length + 5, one, Parts.scan(1, 63, 0, 2, 3));
        Parts.due("a band of the same", 0, -1, one, Parts.scan(1, 63, 0, 1, 0), Tiny.BIT, Parts.scan(0, 0, 0, 2, 0),
            Tiny.BIT, E);
        Parts.due("217 behind bands of one alone", 4, one.length + 11 + 1, one, Parts.scan(1, 63, 0, 1, 0), Tiny.BIT, E);
    }

    private static void whatWasSent() {
        Check.sentence("BITS are 0 .. 13; BEFORE is 0 for coefficients of which there was no SCAN before, "
            + "else BITS + 1 and the BITS of the SCAN that was the latest for each of them.");
        int[] head = Parts.join(TABLES, Tiny.PROGRESSIVE, Parts.scan(0, 0, 2, 1, 0), Tiny.BIT);
        int at = head.length + 4;
        for (int bits = 0; bits <= 13; bits++) {
            Parts.due("direct ones sent again with BITS " + bits, 6, at + 5, head, Parts.scan(0, 0, bits, 1, 0));
            boolean fits = bits == 1;
            Parts.due("refined to BITS " + bits, fits ? 0 : 6, fits ? -1 : at + 5, head,
                Parts.scan(0, 0, 16 * (bits + 1) + bits, 1, 0), Tiny.BIT, E);
        }
        int[] refined = Parts.join(head, Parts.scan(0, 0, 0x21, 1, 0), Tiny.BIT);
        Parts.due("refined twice alike", 6, refined.length + 9, refined, Parts.scan(0, 0, 0x21, 1, 0));
        int[] done = Parts.join(refined, Parts.scan(0, 0, 0x10, 1, 0), Tiny.BIT);
        Parts.due("refined to the end", 0, -1, done, E);
        Parts.due("BITS 0 are the end", 6, done.length + 9, done, Parts.scan(0, 0, 0x10, 1, 0));
        Parts.due("BITS 0 are the end of new ones, too", 6, done.length + 9, done, Parts.scan(0, 0, 0, 1, 0));
        int[] band = Parts.join(head, Parts.scan(3, 5, 1, 1, 0), Tiny.BIT);
        int next = band.length + 9;
        int[][] cases = {{3, 5, 0x10, 0}, {4, 4, 0x10, 0}, {3, 3, 0x10, 0}, {5, 5, 0x10, 0}, {2, 3, 0x10, 6}, {5, 6, 0x10, 6},
            {3, 5, 0, 6}, {5, 5, 0, 6}, {1, 2, 0, 0}, {6, 63, 0, 0}, {1, 3, 0, 6}, {5, 63, 0, 6}, {1, 63, 0, 6},
            {1, 63, 0x10, 6}, {1, 2, 0x10, 6}, {3, 5, 0x21, 6}, {3, 5, 0x32, 6}};
        for (int[] w : cases) {
            Parts.due("band " + w[0] + " to " + w[1] + " by " + w[2], w[3], w[3] == 0 ? -1 : next, band,
                Parts.scan(w[0], w[1], w[2], 1, 0), Tiny.BIT, E);
        }
        // Parts that differ can not be refined together, until they are alike again.
        int[] part = Parts.join(band, Parts.scan(4, 4, 0x10, 1, 0), Tiny.BIT);
        Parts.due("one of them is further", 6, part.length + 9, part, Parts.scan(3, 5, 0x10, 1, 0));
        Parts.due("the others alone", 0, -1, part, Parts.scan(3, 3, 0x10, 1, 0), Tiny.BIT, Parts.scan(5, 5, 0x10, 1, 0),
            Tiny.BIT, E);
        int[] levels = Parts.join(head, Parts.scan(1, 1, 2, 1, 0), Tiny.BIT, Parts.scan(2, 2, 1, 1, 0), Tiny.BIT);
        Parts.due("of two levels", 6, levels.length + 9, levels, Parts.scan(1, 2, 0x21, 1, 0));
        Parts.due("of one level", 0, -1, levels, Parts.scan(1, 1, 0x21, 1, 0), Tiny.BIT, Parts.scan(1, 2, 0x10, 1, 0),
            Tiny.BIT, E);
    }

    private static void severalThatWereSent() {
        Check.sentence("then 6 if BEFORE and BITS do not fit what was sent (the last byte).");
        int[] head = pair();
        Parts.due("a refinement of nothing", 6, head.length + 9, head, Parts.scan(0, 0, 0x10, 1, 0));
        int[] one = Parts.join(head, Parts.scan(0, 0, 2, 1, 0), Tiny.BIT);
        Parts.due("the second was not sent", 6, one.length + 11, one, Parts.scan(0, 0, 0x21, 1, 0, 2, 0));
        Parts.due("the first was sent", 6, one.length + 11, one, Parts.scan(0, 0, 0, 1, 0, 2, 0));
        int[] both = Parts.join(one, Parts.scan(0, 0, 1, 2, 0), Tiny.BIT);
        Parts.due("with other BITS", 6, both.length + 11, both, Parts.scan(0, 0, 0x21, 1, 0, 2, 0));
        Parts.due("with other BITS", 6, both.length + 11, both, Parts.scan(0, 0, 0x10, 1, 0, 2, 0));
        Parts.due("with the same", 0, -1, both, Parts.scan(0, 0, 0x21, 1, 0), Tiny.BIT,
            Parts.scan(0, 0, 0x10, 1, 0, 2, 0), Parts.data("00"), E);
        // A band of one component tells nothing of the other's.
        int[] band = Parts.join(both, Parts.scan(1, 63, 1, 1, 0), Tiny.BIT);
        Parts.due("a band of the other is new", 0, -1, band, Parts.scan(1, 63, 0, 2, 0), Tiny.BIT, E);
        Parts.due("and can not be refined", 6, band.length + 9, band, Parts.scan(1, 63, 0x10, 2, 0));
        Parts.due("ahead of 8", 6, band.length + 9, band, Parts.scan(1, 63, 0, 1, 3));
        Parts.due("ahead of 5", 6, band.length + 9, band, Parts.segment(218, 1, 1, 0, 1, 63, 0, 0));
    }

    private static void quantisersThatAreNot() {
        Check.sentence("8 if its QUANTISERS are not there (its name)");
        int[] words = Parts.join(Tiny.DC, Tiny.AC);
        for (int t = 0; t < 4; t++) {
            for (int told = 0; told < 4; told++) {
                int[] head = Parts.join(S, Parts.quantiser(told, 1), words, Parts.frame(192, 8, 8, 1, 17, t));
                Parts.due("table " + told + " for " + t, told == t ? 0 : 8, told == t ? -1 : head.length + 5, head,
                    Tiny.SCAN, Tiny.BITS, E);
            }
        }
        int[] two = Parts.frame(192, 8, 8, 1, 17, 0, 2, 17, 1);
        int[] head = Parts.join(TABLES, two);
        Parts.due("of the second", 8, head.length + 7, head, Parts.scan(0, 63, 0, 1, 0, 2, 0));
        Parts.due("of the second alone", 8, head.length + 5, head, Parts.scan(0, 63, 0, 2, 0));
        Parts.due("of the first alone they are", 8, head.length + 11 + 5, head, Parts.scan(0, 63, 0, 1, 0), Tiny.BITS,
            Parts.scan(0, 63, 0, 2, 0));
        Parts.due("told behind the frame", 0, -1, head, Parts.quantiser(1, 1), Parts.scan(0, 63, 0, 1, 0, 2, 0),
            Parts.data("0000"), E);
        Parts.due("a table that was told with a fault is not asked for", 6, 7, S, Parts.quantiser(0, 0));
    }

    private static void wordsThatAreNot() {
        Check.sentence("All tables that its components need are there: their QUANTISERS; DC tables if FIRST is 0 and BEFORE 0; "
            + "AC tables if LAST is above 0.");
        Check.sentence("else if one of its tables of WORDS that is needed is not (the byte behind the name).");
        int[] noAc = Parts.join(S, Tiny.Q, Tiny.DC, Tiny.FRAME);
        Parts.due("no AC table", 8, noAc.length + 6, noAc, Tiny.SCAN);
        int[] noDc = Parts.join(S, Tiny.Q, Tiny.AC, Tiny.FRAME);
        Parts.due("no DC table", 8, noDc.length + 6, noDc, Tiny.SCAN);
        int[] neither = Parts.join(S, Tiny.Q, Tiny.FRAME);
        Parts.due("neither", 8, neither.length + 6, neither, Tiny.SCAN);
        int[] two = Parts.join(TABLES, Parts.frame(192, 8, 8, 1, 17, 0, 2, 17, 0));
        Parts.due("no AC table of the second", 8, two.length + 8, two, Parts.scan(0, 63, 0, 1, 0, 2, 1));
        Parts.due("no DC table of the second", 8, two.length + 8, two, Parts.scan(0, 63, 0, 1, 0, 2, 16));
        int[] direct = Parts.join(S, Tiny.Q, Tiny.DC, Tiny.PROGRESSIVE, Parts.scan(0, 0, 1, 1, 3), Tiny.BIT);
        Parts.due("a direct scan needs no AC table", 0, -1, direct, E);
        Parts.due("a direct scan needs a DC table", 8, noDc.length + 6, S, Tiny.Q, Tiny.AC, Tiny.PROGRESSIVE, Tiny.DIRECT);
        Parts.due("a band needs an AC table", 8, direct.length + 6, direct, Parts.scan(1, 1, 0, 1, 3));
        Parts.due("a band needs no DC table", 0, -1, direct, Tiny.AC, Parts.scan(1, 1, 0, 1, 0x30), Tiny.BIT, E);
        Parts.due("a direct refinement needs no table", 0, -1, direct, Parts.scan(0, 0, 0x10, 1, 0x33), Tiny.BIT, E);
        Parts.due("a band's refinement needs one", 8, direct.length + 22 + 11 + 6, direct, Tiny.AC,
            Parts.scan(1, 1, 1, 1, 0), Tiny.BIT, Parts.scan(1, 1, 0x10, 1, 1));
        Parts.due("a band's refinement needs no DC table", 0, -1, direct, Tiny.AC, Parts.scan(1, 1, 1, 1, 0), Tiny.BIT,
            Parts.scan(1, 1, 0x10, 1, 0x20), Tiny.BIT, E);
    }

    private static void orderOfFaults() {
        Check.sentence("Then, one behind the other: 8 if its QUANTISERS are not there (its name), "
            + "else if one of its tables of WORDS that is needed is not (the byte behind the name). Then 5.");
        int[] bare = Parts.join(S, Parts.frame(192, 8, 8, 1, 17, 0, 2, 17, 1));
        Parts.due("quantisers ahead of words", 8, bare.length + 5, bare, Parts.scan(0, 63, 0, 1, 0, 2, 0));
        int[] all = Parts.join(TABLES, Parts.frame(192, 8, 8, 1, 17, 0, 2, 17, 1));
        Parts.due("words of the first ahead of quantisers of the second", 8, all.length + 6, all,
            Parts.scan(0, 63, 0, 1, 1, 2, 0));
        int[] turned = Parts.join(TABLES, Parts.frame(192, 8, 8, 1, 17, 1, 2, 17, 0));
        Parts.due("quantisers of the first ahead of words of the second", 8, turned.length + 5, turned,
            Parts.scan(0, 63, 0, 1, 0, 2, 1));
        Parts.due("8 ahead of 5", 8, all.length + 6, all, Parts.segment(218, 1, 1, 1, 0, 63, 0, 0));
        Parts.due("8 for quantisers ahead of 5", 8, all.length + 5, all, Parts.segment(218, 1, 2, 0, 0, 63, 0, 0));
        Parts.due("5 ahead of the data", 5, all.length + 2, all, Parts.segment(218, 1, 1, 0, 0, 63, 0, 0));
        Parts.due("6 for FIRST ahead of 8", 6, all.length + 7, all, Parts.scan(1, 63, 0, 2, 51));
        int[] sent = Parts.join(all, Parts.scan(0, 63, 0, 1, 0), Tiny.BITS);
        Parts.due("7 of the second ahead of 8 of the first", 7, sent.length + 7 - 2, sent, Parts.scan(0, 63, 0, 1, 0, 2, 0));
        Parts.due("7 ahead of 5", 7, sent.length + 5, sent, Parts.segment(218, 1, 1, 0, 0, 63, 0, 0));
    }

    private static void endOfData() {
        Check.sentence("DATA: bytes up to a 255 that is followed by anything else (255, too) but these: "
            + "255, 0 is one byte of data, 255;");
        int[] head = Parts.join(TABLES, Tiny.FRAME, Tiny.SCAN);
        int at = head.length;
        Parts.due("no end", 1, at + 3, head, row(1, 2, 3));
        Parts.due("no data and no end", 1, at, head);
        Parts.due("a last 255", 1, at + 2, head, row(1, 255));
        Parts.due("a last 255, 0", 1, at + 3, head, row(1, 255, 0));
        Parts.due("255, 0, 255", 1, at + 3, head, row(255, 0, 255));
        Parts.due("255, 255, 0", 4, at + 2, head, row(255, 255, 0));
        Parts.due("255, 255 and the end", 0, -1, head, Tiny.BITS, row(255), E);
        Parts.due("no data", 11, 0, head, E);
        Parts.due("no data, and more 255s", 11, 0, head, row(255), E);
        for (int code : row(1, 191, 193, 222, 240)) {
            Parts.due("255, " + code, 4, at + 2, head, row(0x3f, 255, code), E);
        }
        Check.sentence("(Of a FILE 6, 3 for a direct SYMBOL and 2 for a TABLE without words never come: "
            + "its DATA end ahead of such a 255, and its tables are as said.)");
        Parts.due("the data end ahead of 255, 218", 11, 0, TABLES, Parts.frame(192, 8, 8, 1, 17, 0, 2, 17, 0), Tiny.SCAN,
            Parts.scan(0, 63, 0, 2, 0), Tiny.BITS, E);
        Parts.due("the data end ahead of 255, 254", 11, 0, head, Parts.segment(254), E);
        Parts.due("255, 0 many times", 15, 0, head, row(0x3f, 255, 0, 255, 0, 255, 0), E);
        // The byte 255 in the middle and at the end of the data: all of it is one block of 1023, 1023 and the end.
        int[] words = Parts.words(16, 0, 1, 2, 3, 4, 10);
        Parts.due("255, 0 within and at the end", 0, -1, S, Tiny.Q, Parts.words(0, 0), words, Tiny.FRAME, Tiny.SCAN,
            row(0x7d, 255, 0, 0xfd, 255, 0, 0xbf), E);
    }

    private static void restartsInData() {
        Check.sentence("255 and 208 .. 215 (with just that one 255) is a RESTART, if there is an INTERVAL: "
            + "the first one 208, and so on, 208 again behind 215. There the next MARKER begins.");
        int[] plain = Parts.join(TABLES, Parts.frame(192, 8, 64, 1, 17, 0), Tiny.SCAN);
        for (int code = 208; code <= 215; code++) {
            Parts.due("restart " + code + " without interval", 4, plain.length + 2, plain, Tiny.BITS, row(255, code));
        }
        int[] head = Parts.join(TABLES, Parts.interval(1), Parts.frame(192, 8, 64, 1, 17, 0), Tiny.SCAN);
        for (int code = 209; code <= 215; code++) {
            Parts.due("first restart " + code, 4, head.length + 2, head, Tiny.BITS, row(255, code), E);
        }
        Parts.due("two 255s ahead of a restart", 4, head.length + 3, head, Tiny.BITS, row(255, 255, 208));
        Parts.due("restart 208 twice", 4, head.length + 5, head, Tiny.BITS, row(255, 208), Tiny.BITS, row(255, 208));
        Parts.due("restart 209 left out", 4, head.length + 5, head, Tiny.BITS, row(255, 208), Tiny.BITS, row(255, 210));
        Parts.due("a restart at the end of the input", 1, head.length + 3, head, Tiny.BITS, row(255, 208));
        Parts.due("restarts in order", 0, -1, head, Parts.data("00", "R0", "00", "R1", "00", "R2", "00", "R3", "00", "R4",
            "00", "R5", "00", "R6", "00"), E);
        int[] wide = Parts.join(TABLES, Parts.interval(1), Parts.frame(192, 16, 64, 1, 17, 0), Tiny.SCAN);
        int[] nine = Parts.join(wide, Parts.data("00", "R0", "00", "R1", "00", "R2", "00", "R3", "00", "R4", "00", "R5",
            "00", "R6", "00", "R7", "00"));
        Parts.due("208 again behind 215", 0, -1, nine, Parts.data("R0", "00", "R1", "00", "R2", "00", "R3", "00", "R4",
            "00", "R5", "00", "R6", "00"), E);
        Parts.due("not 209 behind 215", 4, nine.length + 1, nine, Parts.data("R1", "00"), E);
        Parts.due("not 215 behind 215", 4, nine.length + 1, nine, Parts.data("R7", "00"), E);
        Parts.due("not 216 behind 215", 4, nine.length + 1, nine, row(255, 216), E);
        Parts.due("interval 0 is none", 4, plain.length + 12 + 2, TABLES, Parts.interval(1), Parts.interval(0),
            Parts.frame(192, 8, 64, 1, 17, 0), Tiny.SCAN, Tiny.BITS, row(255, 208), Tiny.BITS, E);
        // Each scan begins with 208 again.
        Parts.due("208 at first in each scan", 0, -1, TABLES, Parts.interval(1),
            Parts.frame(192, 8, 16, 1, 17, 0, 2, 17, 0), Tiny.SCAN, Parts.data("00", "R0", "00"),
            Parts.scan(0, 63, 0, 2, 0), Parts.data("00", "R0", "00"), E);
    }

    /** As many scans as can be told in 512 calls: all bands of one coefficient, each refined three times. */
    private static void manyScans() {
        Check.sentence("Then its SCANS, the first one first, all coefficients being 0 ahead of it:");
        int[] file = Parts.join(TABLES, Tiny.PROGRESSIVE, Tiny.DIRECT, Tiny.BIT);
        int scans = 1;
        for (int bits = 3; bits >= 0; bits--) {
            for (int k = 1; k < 64; k++) {
                file = Parts.join(file, Parts.scan(k, k, bits == 3 ? 3 : 16 * (bits + 1) + bits, 1, 0), Tiny.BIT);
                scans++;
            }
        }
        Subject x = Parts.open("many scans", file, E);
        Check.due("scans", x.statusOf(4), scans);
        Check.due("segments", x.statusOf(5), 4 + scans);
        Check.due("253 of them", scans, 253);
        file[file.length - 1] = 0x3f;
        Parts.due("a fault of the last one", 15, 252, file, E);
    }
}
