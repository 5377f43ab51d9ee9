import java.util.Arrays;

/** Promises 5 and 13: tables of quantisers, of words, and intervals, with fault 6. */
public final class TablesTest {
    private static final int[] S = Tiny.S;
    private static final int[] E = Tiny.E;

    public static void main(String[] args) {
        quantisers();
        quantisersAgain();
        stepsOfTheFirstScan();
        namesOfWords();
        counts();
        words();
        symbols();
        wordsAgain();
        manyTables();
        intervals();
        Check.end();
    }

    private static int[] row(int... bytes) {
        return bytes;
    }

    /** The contents of a table of which step k is 1 + (k + more) modulo 255. */
    private static int[] table(int name, int more) {
        int[] contents = new int[65];
        contents[0] = name;
        for (int k = 0; k < 64; k++) {
            contents[1 + k] = 1 + (k + more) % 255;
        }
        return contents;
    }

    private static void steps(String what, Subject x, int c, int more) {
        for (int k = 0; k < 64; k++) {
            Check.due(what + ": step " + k + " of " + c, x.stepAt(c, k), 1 + (k + more) % 255);
        }
    }

    private static void quantisers() {
        Check.sentence("219 QUANTISERS: one or more of: a byte 0 .. 3, the table; 64 bytes 1 .. 255, in ZIGZAG order.");
        int[] frame = Parts.frame(192, 8, 8, 1, 17, 3, 2, 17, 2, 3, 17, 1, 4, 17, 0);
        int[] scan = Parts.join(Parts.scan(0, 63, 0, 1, 0, 2, 0, 3, 0, 4, 0), Parts.data("00000000"), E);
        int[] four = Parts.segment(219, Parts.join(table(0, 254), table(1, 70), table(2, 140), table(3, 210)));
        Subject x = Parts.open("four tables in one segment", S, four, Tiny.DC, Tiny.AC, frame, scan);
        int[] more = {210, 140, 70, 254};
        for (int c = 0; c < 4; c++) {
            steps("four tables", x, c, more[c]);
        }
        Parts.due("four segments", 0, -1, S, Parts.segment(219, table(3, 0)), Parts.segment(219, table(2, 0)),
            Parts.segment(219, table(1, 0)), Parts.segment(219, table(0, 0)), Tiny.DC, Tiny.AC, frame, scan);
        for (int name : row(4, 5, 15, 16, 19, 128, 255)) {
            Parts.due("table " + name, 6, 6, S, Parts.segment(219, table(name, 0)));
            Parts.due("second table " + name, 6, 71, S, Parts.segment(219, Parts.join(table(3, 0), row(name))));
        }
        for (int k = 0; k < 64; k++) {
            int[] zero = table(1, 0);
            zero[1 + k] = 0;
            Parts.due("step " + k + " is 0", 6, 7 + k, S, Parts.segment(219, zero));
        }
        for (int step : row(1, 2, 254, 255)) {
            Subject y = Parts.open("steps " + step, S, Parts.quantiser(0, step), Tiny.DC, Tiny.AC, Tiny.FRAME, Tiny.SCAN,
                Tiny.BITS, E);
            Check.due("first step", y.stepAt(0, 0), step);
            Check.due("last step", y.stepAt(0, 63), step);
        }
        Check.sentence("STEP k, in ZIGZAG order, of component c; NONE if there is none such.");
        int[][] none = {{-1, 0}, {4, 0}, {0, -1}, {0, 64}, {3, 64}, {Integer.MAX_VALUE, 0}, {Integer.MIN_VALUE, 0},
            {0, Integer.MAX_VALUE}, {0, Integer.MIN_VALUE}, {1, -64}, {-1, 64}};
        for (int[] w : none) {
            Check.due("stepAt(" + w[0] + ", " + w[1] + ")", x.stepAt(w[0], w[1]), -1);
        }
        Subject one = Parts.open("one component", Tiny.FILE);
        Check.due("the last one", one.stepAt(0, 63), 7);
        for (int c = 1; c < 5; c++) {
            Check.due("no component " + c, one.stepAt(c, 0), -1);
        }
    }

    private static void quantisersAgain() {
        Check.sentence("A table told again is that from there on.");
        int[] rest = Parts.join(Tiny.DC, Tiny.AC, Tiny.FRAME, Tiny.SCAN, Tiny.BITS, E);
        Subject x = Parts.open("twice", S, Parts.segment(219, table(0, 5)), Parts.segment(219, table(0, 50)), rest);
        steps("twice", x, 0, 50);
        Subject y = Parts.open("twice in one segment", S, Parts.segment(219, Parts.join(table(0, 5), table(0, 50))), rest);
        steps("twice in one segment", y, 0, 50);
    }

    private static void stepsOfTheFirstScan() {
        Check.sentence("The STEPS of a component are its table of QUANTISERS as it is at the first SCAN with it.");
        int[] head = Parts.join(S, Parts.segment(219, table(0, 5)), Tiny.DC, Tiny.AC);
        int[] other = Parts.segment(219, table(0, 99));
        int[] third = Parts.segment(219, table(0, 180));
        int[] two = Parts.frame(194, 8, 8, 1, 17, 0, 2, 17, 0);
        Subject x = Parts.open("told between scans", head, two, Parts.scan(0, 0, 1, 1, 0), Tiny.BIT, other,
            Parts.scan(0, 0, 1, 2, 0), Tiny.BIT, third, Parts.scan(0, 0, 0x10, 1, 0, 2, 0), row(0x3f), E);
        steps("of the first scan with it", x, 0, 5);
        steps("of the second scan", x, 1, 99);
        Subject y = Parts.open("told behind the frame", head, Tiny.FRAME, other, Tiny.SCAN, Tiny.BITS, third, E);
        steps("told behind the frame", y, 0, 99);
        Subject z = Parts.open("of one table in two scans", head, Parts.frame(192, 8, 8, 1, 17, 0, 2, 17, 0),
            Parts.scan(0, 63, 0, 2, 0), Tiny.BITS, other, Parts.scan(0, 63, 0, 1, 0), Tiny.BITS, E);
        steps("of the later scan", z, 0, 99);
        steps("of the earlier scan", z, 1, 5);
    }

    private static void namesOfWords() {
        Check.sentence("196 WORDS: one or more of: a byte: 0 .. 3 a DC table, 16 .. 19 an AC table;");
        for (int name = 0; name < 256; name++) {
            boolean known = name < 4 || name >= 16 && name < 20;
            if (known) {
                Parts.due("table " + name, 1, 24, S, Parts.words(name, 0));
            } else {
                Parts.due("table " + name, 6, 6, S, Parts.words(name, 0));
                Parts.due("second table " + name, 6, 24, S, Parts.segment(196, Parts.join(Parts.table(3, 0), row(name))));
            }
        }
        int[] all = new int[0];
        for (int t = 0; t < 4; t++) {
            all = Parts.join(all, Parts.table(t, 0), Parts.table(16 + t, 0));
        }
        for (int t = 0; t < 4; t++) {
            Parts.due("tables " + t + " of eight in one segment", 0, -1, S, Tiny.Q, Parts.segment(196, all), Tiny.FRAME,
                Parts.scan(0, 63, 0, 1, 17 * t), Tiny.BITS, E);
        }
        // A DC table is no AC table: each of the four is its own.
        for (int t = 0; t < 4; t++) {
            int[] head = Parts.join(S, Tiny.Q, Parts.words(t, 0), Parts.words(19 - t, 0), Tiny.FRAME);
            for (int dc = 0; dc < 4; dc++) {
                for (int ac = 0; ac < 4; ac++) {
                    boolean there = dc == t && ac == 3 - t;
                    Parts.due("tables " + dc + ", " + ac, there ? 0 : 8, there ? -1 : head.length + 6, head,
                        Parts.scan(0, 63, 0, 1, 16 * dc + ac), Tiny.BITS, E);
                }
            }
        }
    }

    /** The name and sixteen counts; pairs of a length and its count. */
    private static int[] counts(int name, int... pairs) {
        int[] row = new int[17];
        row[0] = name;
        for (int k = 0; k < pairs.length; k += 2) {
            row[pairs[k]] = pairs[k + 1];
        }
        return row;
    }

    private static int[] symbols(int from, int many) {
        int[] all = new int[many];
        for (int k = 0; k < many; k++) {
            all[k] = from + k;
        }
        return all;
    }

    private static void counts() {
        Check.sentence("sixteen COUNTS, of words of 1 .. 16 bits, together 1 .. 256");
        for (int length = 1; length <= 16; length++) {
            // One word, of zeros: with it a block of 0s.
            Parts.due("one word of " + length + " bits", 0, -1, S, Tiny.Q, Parts.words(0, 0),
                Parts.segment(196, Parts.join(counts(16, length, 1), row(0))), Tiny.FRAME, Tiny.SCAN,
                Parts.data("0" + "0".repeat(length)), E);
        }
        int[] most = Parts.join(counts(16, 9, 254, 10, 2), symbols(0, 256));
        Parts.due("256 words", 1, 6 + most.length, S, Parts.segment(196, most));
        // Of 256 words the last but one, of ten bits, is 254 * 2 = 508; its symbol, 254, can not be there.
        int[] turned = most.clone();
        for (int k = 0; k < 256; k++) {
            turned[17 + k] = 255 - k;
        }
        Parts.due("the last of 256 words", 0, -1, S, Tiny.Q, Parts.words(0, 0), Parts.segment(196, turned), Tiny.FRAME,
            Tiny.SCAN, Parts.data("0 0111111101"), E);
        Parts.due("the last but one", 13, 0, S, Tiny.Q, Parts.words(0, 0), Parts.segment(196, most),
            Tiny.FRAME, Tiny.SCAN, Parts.data("0 0111111100"), E);
        Parts.due("257 words", 6, 6 + 10, S, Parts.segment(196, counts(16, 9, 255, 10, 2)));
        Parts.due("257 words, at the last count", 6, 6 + 16, S, Parts.segment(196, counts(16, 15, 3, 16, 254)));
        Parts.due("256 words, at the last count", 1, 6 + 17 + 256, S,
            Parts.segment(196, Parts.join(counts(16, 15, 2, 16, 254), symbols(0, 256))));
        Parts.due("510 words", 6, 6 + 14, S, Parts.segment(196, counts(19, 13, 255, 14, 255)));
        Check.sentence("the COUNT or symbol with which it is seen (the last COUNT, if all are 0)");
        Parts.due("all 0", 6, 6 + 16, S, Parts.segment(196, counts(0)));
        Parts.due("all 0 of an AC table", 6, 6 + 16, S, Parts.segment(196, counts(17)));
        Parts.due("all 0, the last one not there", 1, 6 + 16, S, row(255, 196, 0, 40), Arrays.copyOf(counts(0), 16));
    }

    private static void words() {
        Check.sentence("none may be all 1s or more than that");
        for (int length = 1; length <= 7; length++) {
            int all = 1 << length;
            Parts.due("all words of " + length + " bits", 6, 6 + length, S, Parts.segment(196, counts(16, length, all)));
            if (length > 1) {
                int[] fewer = Parts.join(counts(16, length, all - 1), symbols(0, all - 1));
                Parts.due("all but one of " + length + " bits", 1, 6 + fewer.length, S, Parts.segment(196, fewer));
                Parts.due("then one that is all 1s", 6, 6 + length + 1, S,
                    Parts.segment(196, counts(16, length, all - 1, length + 1, 2)));
                Parts.due("then none that is", 1, 6 + 17 + all, S, Parts.segment(196,
                    Parts.join(counts(16, length, all - 1, length + 1, 1), symbols(0, all))));
            }
        }
        Parts.due("255 words of eight bits", 1, 6 + 17 + 255, S,
            Parts.segment(196, Parts.join(counts(16, 8, 255), symbols(1, 255))));
        Parts.due("many words of one bit", 6, 7, S, Parts.segment(196, counts(0, 1, 255)));
        Parts.due("two words of one bit", 6, 7, S, Parts.segment(196, counts(0, 1, 2)));
        Parts.due("three words of two bits behind one of one", 6, 8, S, Parts.segment(196, counts(0, 1, 1, 2, 3)));
        // 0, 10, 110, .. and at the end fifteen 1s and a 0, or sixteen 1s.
        int[] chain = Parts.table(16, symbols(0, 16));
        Parts.due("a word of fifteen 1s and a 0", 1, 6 + chain.length, S, Parts.segment(196, chain));
        chain[16] = 2;
        Parts.due("and a word of sixteen 1s", 6, 6 + 16, S, Parts.segment(196, chain));
        Check.sentence("a word being as many 0s as its length says for the first one, each further one the one before, "
            + "as a number, plus 1, with as many 0s behind it as it is longer");
        // 00, 01, 1000, 1001, 101000: symbols 0, 1, 2, 3, 4 of direct differences.
        int[] dc = Parts.segment(196, Parts.join(counts(0, 2, 2, 4, 2, 6, 1), symbols(0, 5)));
        Subject x = Parts.open("words of 2, 4 and 6 bits", S, Tiny.Q, dc, Parts.words(16, 0),
            Parts.frame(192, 8, 40, 1, 17, 0), Tiny.SCAN,
            Parts.data("00 0", "01 1 0", "1000 10 0", "1001 000 0", "101000 1111 0"), E);
        int[] want = {0, 1, 3, -4, 11};
        for (int bx = 0; bx < 5; bx++) {
            Check.due("direct coefficient of block " + bx, x.coefficientAt(0, bx, 0, 0), want[bx]);
        }
    }

    private static void symbols() {
        Check.sentence("as many bytes, the symbols, none twice; in a DC table 0 .. 11 alone.");
        for (int symbol = 0; symbol < 256; symbol++) {
            boolean direct = symbol <= 11;
            Parts.due("direct symbol " + symbol, direct ? 1 : 6, direct ? 24 : 23, S, Parts.words(3, symbol));
            Parts.due("other symbol " + symbol, 1, 24, S, Parts.words(16, symbol));
            Parts.due("other symbol " + symbol + " twice", 6, 24, S, Parts.words(19, symbol, symbol));
        }
        int[] twelve = Parts.join(counts(0, 4, 12), symbols(0, 12));
        Parts.due("all twelve direct symbols", 1, 6 + twelve.length, S, Parts.segment(196, twelve));
        Parts.due("a thirteenth is one of them", 6, 6 + 17 + 12, S,
            Parts.segment(196, Parts.join(counts(0, 4, 13), symbols(0, 12), row(0))));
        Parts.due("the last of 256 is one of the others", 6, 6 + 17 + 255, S,
            Parts.segment(196, Parts.join(counts(16, 9, 254, 10, 2), symbols(0, 255), row(0))));
        Parts.due("the same in two tables", 0, -1, S, Tiny.Q,
            Parts.segment(196, Parts.join(Parts.table(0, 0, 1), Parts.table(16, 0, 1))), Tiny.FRAME, Tiny.SCAN, Tiny.BITS, E);
        Parts.due("a further table has a symbol twice", 6, 6 + 19 + 18, S,
            Parts.segment(196, Parts.join(Parts.table(0, 0, 1), Parts.table(16, 1, 1))));
    }

    private static void wordsAgain() {
        Check.sentence("A table told again is that from there on.");
        int[] frame = Parts.frame(192, 8, 8, 1, 17, 0, 2, 17, 0);
        int[] later = Parts.join(Parts.scan(0, 63, 0, 2, 0), Parts.data("0 1 0"), E);
        // The word 0 is a difference of size 1 in the later table, one of size 0 in the earlier one.
        Subject x = Parts.open("a DC table told between scans", S, Tiny.Q, Parts.words(0, 0), Tiny.AC, frame, Tiny.SCAN,
            Tiny.BITS, Parts.words(0, 1), later);
        Check.due("as it was", x.coefficientAt(0, 0, 0, 0), 0);
        Check.due("as it is", x.coefficientAt(1, 0, 0, 0), 1);
        Subject y = Parts.open("twice in one segment", S, Tiny.Q,
            Parts.segment(196, Parts.join(Parts.table(0, 0), Parts.table(0, 1), Parts.table(16, 1), Parts.table(16, 0))),
            Tiny.FRAME, Tiny.SCAN, Parts.data("0 0 0"), E);
        Check.due("the later one", y.coefficientAt(0, 0, 0, 0), -1);
        // Fewer words than before: those that are gone can not be read any more.
        Parts.due("a table with fewer words", 12, 1, S, Tiny.Q, Parts.words(0, 0, 1), Tiny.AC, frame, Tiny.SCAN,
            Parts.data("10 1 0"), Parts.words(0, 0), Parts.scan(0, 63, 0, 2, 0), Parts.data("10 1 0"), E);
        Parts.due("an AC table with fewer words", 12, 1, S, Tiny.Q, Parts.words(0, 0), Parts.words(16, 0, 1), frame,
            Tiny.SCAN, Parts.data("0 10 1 0"), Parts.words(16, 0), Parts.scan(0, 63, 0, 2, 0), Parts.data("0 10 1 0"), E);
        Parts.due("a table told behind the scan is not there", 12, 0, S, Tiny.Q, Parts.words(0, 0), Tiny.AC, Tiny.FRAME,
            Tiny.SCAN, Parts.data("10 1 0"), Parts.words(0, 0, 1), E);
    }

    private static void manyTables() {
        Check.sentence("196 WORDS: one or more of:");
        // As many as can be told in 512 calls: each is that from there on, until the last one.
        int[] all = new int[0];
        for (int k = 0; k < 195; k++) {
            all = Parts.join(all, Parts.table(k % 2 == 0 ? 0 : 16, k < 193 ? 2 : k == 193 ? 0 : 1));
        }
        Subject x = Parts.open("many tables in one segment", S, Tiny.Q, Parts.segment(196, all), Tiny.FRAME, Tiny.SCAN,
            Parts.data("0 1 0"), E);
        Check.due("the last one", x.coefficientAt(0, 0, 0, 0), 1);
        Parts.due("a fault of the last one", 6, 2 + 69 + 4 + 18 * 194, S, Tiny.Q,
            Parts.segment(196, Parts.join(Arrays.copyOf(all, 18 * 194), row(4), Arrays.copyOf(all, 17))));
        // Fifty tables of quantisers.
        int[] steps = new int[0];
        for (int k = 0; k < 50; k++) {
            steps = Parts.join(steps, table(k % 4, k));
        }
        Subject y = Parts.open("many tables of quantisers", S, Parts.segment(219, steps), Tiny.DC, Tiny.AC,
            Parts.frame(192, 8, 8, 1, 17, 1), Tiny.SCAN, Tiny.BITS, E);
        steps("the last one of table 1", y, 0, 49);
    }

    private static void intervals() {
        Check.sentence("221 INTERVAL: two bytes, 0 (none; so at first) or how many units there are between two restarts.");
        int[] five = Parts.join(Parts.frame(192, 8, 40, 1, 17, 0), Tiny.SCAN);
        int[] without = Parts.join(five, Parts.data("00 00 00 00 00"), E);
        Parts.due("none at first", 0, -1, Tiny.TABLES, without);
        Parts.due("0", 0, -1, Tiny.TABLES, Parts.interval(0), without);
        Parts.due("0 behind another", 0, -1, Tiny.TABLES, Parts.interval(1), Parts.interval(0), without);
        Parts.due("as many units as there are", 0, -1, Tiny.TABLES, Parts.interval(5), without);
        Parts.due("more", 0, -1, Tiny.TABLES, Parts.interval(6), without);
        Parts.due("the most", 0, -1, Tiny.TABLES, Parts.interval(65535), without);
        Parts.due("one fewer", 15, 0, Tiny.TABLES, Parts.interval(4), without);
        Parts.due("1", 0, -1, Tiny.TABLES, Parts.interval(1), five,
            Parts.data("00", "R0", "00", "R1", "00", "R2", "00", "R3", "00"), E);
        Parts.due("2", 0, -1, Tiny.TABLES, Parts.interval(2), five, Parts.data("00 00", "R0", "00 00", "R1", "00"), E);
        Parts.due("4", 0, -1, Tiny.TABLES, Parts.interval(4), five, Parts.data("00 00 00 00", "R0", "00"), E);
        Parts.due("told behind the frame", 0, -1, Tiny.TABLES, Parts.frame(192, 8, 40, 1, 17, 0), Parts.interval(4),
            Tiny.SCAN, Parts.data("00 00 00 00", "R0", "00"), E);
        Parts.due("told behind the scan", 0, -1, Tiny.TABLES, five, Parts.data("00 00 00 00 00"), Parts.interval(1), E);
    }
}
