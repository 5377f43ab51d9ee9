/** Promise 5: what was opened before, well or with a fault, tells nothing of the next file. */
public final class AgainTest {
    private static final int[] S = Tiny.S;
    private static final int[] E = Tiny.E;

    public static void main(String[] args) {
        tablesOfAnotherFile();
        intervalOfAnotherFile();
        framesOfAnotherFile();
        runsOfAnotherFile();
        bitsOfAnotherFile();
        eachBehindEach();
        Check.end();
    }

    /** A file that tells all tables there are, and an interval. */
    private static int[] rich() {
        int[] all = Parts.interval(1);
        for (int t = 0; t < 4; t++) {
            all = Parts.join(all, Parts.quantiser(t, 9), Parts.words(t, 0, 1), Parts.words(16 + t, 0, 1, 2));
        }
        return Parts.join(S, all, Parts.frame(192, 0, 16, 1, 17, 0), Tiny.SCAN, Parts.data("00", "R0", "00"), Parts.lines(8), E);
    }

    private static void tablesOfAnotherFile() {
        Check.sentence("All tables that its components need are there: their QUANTISERS; DC tables if FIRST is 0 and BEFORE 0; "
            + "AC tables if LAST is above 0.");
        for (int t = 0; t < 4; t++) {
            int[] frame = Parts.frame(192, 8, 8, 1, 17, t);
            int[] scan = Parts.scan(0, 63, 0, 1, 17 * t);
            int[][] heads = {Parts.join(S, Parts.words(t, 0), Parts.words(16 + t, 0), frame),
                Parts.join(S, Parts.quantiser(t, 1), Parts.words(16 + t, 0), frame),
                Parts.join(S, Parts.quantiser(t, 1), Parts.words(t, 0), frame)};
            for (int k = 0; k < 3; k++) {
                Subject x = Parts.open("all tables", rich());
                Parts.give(x, heads[k], scan, Tiny.BITS, E);
                Check.due("table " + t + " is not there", x.openInput(), 8);
                Check.due("its place", x.statusOf(2), heads[k].length + (k == 0 ? 5 : 6));
                // Nor do those of a file with a fault stay, though they were told there.
                Parts.give(x, S, Parts.quantiser(t, 1), Parts.words(t, 0), Parts.words(16 + t, 0));
                Check.due("a fault", x.openInput(), 1);
                Parts.give(x, heads[k], scan, Tiny.BITS, E);
                Check.due("table " + t + " is not there", x.openInput(), 8);
            }
        }
    }

    private static void intervalOfAnotherFile() {
        Check.sentence("221 INTERVAL: two bytes, 0 (none; so at first)");
        Subject x = Parts.open("an interval", rich());
        Parts.give(x, Tiny.TABLES, Parts.frame(192, 8, 16, 1, 17, 0), Tiny.SCAN, Parts.data("0000"), E);
        Check.due("none", x.openInput(), 0);
        Parts.give(x, Tiny.TABLES, Parts.frame(192, 8, 16, 1, 17, 0), Tiny.SCAN, Parts.data("00", "R0", "00"), E);
        Check.due("a restart without one", x.openInput(), 4);
    }

    private static void framesOfAnotherFile() {
        Check.sentence("To OPEN the INPUT: it is read as a FILE; faults 1 .. 8 are as said, with their place.");
        Subject x = Parts.open("a frame", rich());
        Parts.give(x, Tiny.TABLES, Tiny.SCAN);
        Check.due("a scan ahead of the frame", x.openInput(), 4);
        Parts.give(x, Tiny.TABLES, E);
        Check.due("no frame", x.openInput(), 4);
        // Lines were due when the last file ended: they are not in the next one.
        Parts.give(x, Tiny.TABLES, Parts.frame(192, 0, 8, 1, 17, 0), Tiny.SCAN, Tiny.BITS, Parts.segment(254));
        Check.due("lines are due", x.openInput(), 4);
        Parts.give(x, Tiny.FILE);
        Check.due("a good file", x.openInput(), 0);
        Check.due("its height", x.aboutPicture(1), 8);
        // Components that were in a scan of the last file are not in one of this.
        Parts.give(x, Tiny.TABLES, Tiny.FRAME, E);
        Check.due("without a scan", x.openInput(), 4);
        Parts.give(x, Tiny.TABLES, Tiny.PROGRESSIVE, Parts.scan(1, 63, 0, 1, 0));
        Check.due("a band at once", x.openInput(), 7);
        Parts.give(x, Tiny.TABLES, Tiny.PROGRESSIVE, Tiny.DIRECT, Tiny.BIT, Parts.scan(1, 63, 0, 1, 0), Tiny.BIT, E);
        Check.due("a progressive file", x.openInput(), 0);
        Check.due("again", x.openInput(), 0);
    }

    private static int[] bands(int many, int... symbols) {
        return Parts.join(S, Tiny.Q, Parts.words(0, 0), Parts.words(16, symbols), Parts.frame(194, 8, 8 * many, 1, 17, 0),
            Tiny.DIRECT, Parts.data("0".repeat(many)));
    }

    private static void runsOfAnotherFile() {
        Check.sentence("and there is no RUN.");
        int[] good = Parts.join(bands(2, 1, 0), Parts.scan(1, 63, 0, 1, 0), Parts.data("0 1 10", "0 0 10"), E);
        Subject x = new Subject();
        Parts.give(x, bands(2, 0, 32), Parts.scan(1, 63, 0, 1, 0), Parts.data("10 11"), E);
        Check.due("a run of seven", x.openInput(), 15);
        Parts.give(x, good);
        Check.due("a good file", x.openInput(), 0);
        Check.due("its first block", x.coefficientAt(0, 0, 0, 1), 1);
        Check.due("its second block", x.coefficientAt(0, 1, 0, 1), -1);
        // A run that was cut short by another fault, in a refinement.
        Parts.give(x, bands(2, 0, 32), Parts.scan(1, 63, 1, 1, 0), Parts.data("00"), Parts.scan(1, 63, 0x10, 1, 0),
            Parts.data("10 11"), E);
        Check.due("a run of seven", x.openInput(), 15);
        Parts.give(x, good);
        Check.due("a good file", x.openInput(), 0);
        Check.due("its first block", x.coefficientAt(0, 0, 0, 1), 1);
    }

    private static void bitsOfAnotherFile() {
        Check.sentence("At the beginning and behind a RESTART the PREDICTION of each component is 0, and there is no RUN.");
        int[] good = Parts.join(S, Tiny.Q, Parts.words(0, 0, 1), Parts.words(16, 0, 1), Parts.frame(192, 8, 16, 1, 17, 0),
            Tiny.SCAN, Parts.data("10 1 0", "0 10 0 0"), E);
        int[] first = Parts.join(S, Tiny.Q, Parts.words(0, 1, 11), Parts.words(16, 0), Parts.frame(192, 8, 16, 1, 17, 0), Tiny.SCAN);
        Subject x = new Subject();
        for (String bits : new String[] {"0 1 1", "0 1 0 1 1", "0 1 0 10 11111111111 1 0 1", "0 1 0 0 0 0 0"}) {
            Parts.give(x, first, Parts.data(bits), E);
            Check.due("a fault", x.openInput() > 10, true);
            Parts.give(x, good);
            Check.due("a good file", x.openInput(), 0);
            Check.due("its first block", x.coefficientAt(0, 0, 0, 0), 1);
            Check.due("its second block", x.coefficientAt(0, 1, 0, 0), 1);
            Check.due("its second block", x.coefficientAt(0, 1, 0, 1), -1);
        }
    }

    private static void eachBehindEach() {
        Check.sentence("The INPUT (which stays) is OPENED: 0, and that is the PICTURE; else the fault");
        int[] names = {1, 17, 0, 2, 17, 0, 3, 17, 0, 4, 17, 0};
        int[][] files = {
            Tiny.FILE, rich(), {}, {255}, {216}, Parts.join(S, new int[] {1}), Parts.join(S, E),
            Parts.join(S, new int[] {255, 254, 0, 1}), Parts.join(S, Parts.quantiser(3, 0)),
            Parts.join(Tiny.TABLES, Tiny.FRAME, Parts.scan(0, 63, 0, 2, 0)), Parts.join(S, Tiny.FRAME, Tiny.SCAN),
            Parts.join(Tiny.TABLES, Parts.frame(192, 64, 64, names), Parts.scan(0, 63, 0, 1, 0, 2, 0, 3, 0, 4, 0), E),
            Parts.join(bands(3, 0, 1), Parts.scan(1, 63, 10, 1, 0), Tiny.BIT, E),
            Parts.join(bands(3, 0, 1), Parts.scan(1, 63, 0, 1, 0), E),
            Parts.join(bands(3, 0, 16), Parts.scan(1, 63, 0, 1, 0), Parts.data("10 1 0"), E),
            Parts.join(bands(3, 0, 16), Parts.scan(1, 63, 0, 1, 0), Parts.data("0 0 10 0"), E),
            Parts.join(bands(3, 0, 1), Parts.scan(1, 63, 1, 1, 0), Parts.data("10 1 0 0 0"), Parts.scan(1, 63, 0x10, 1, 0),
                Parts.data("10 0 1 0 0 0"), E),
            Parts.join(Tiny.TABLES, Parts.frame(192, 16, 16, 1, 34, 0, 2, 17, 0), Parts.scan(0, 63, 0, 1, 0, 2, 0),
                Parts.data("10 1 0".repeat(5)), E),
            Parts.join(Tiny.TABLES, Parts.interval(1), Parts.frame(192, 8, 24, 1, 17, 0), Tiny.SCAN,
                Parts.data("10 1 0", "R0", "10 0 0", "R1", "10 1 1"), E)};
        for (int[] first : files) {
            for (int[] second : files) {
                Subject fresh = new Subject();
                Parts.give(fresh, second);
                int fault = fresh.openInput();
                Subject x = new Subject();
                Parts.give(x, first);
                boolean opened = x.openInput() == 0;
                Parts.give(x, second);
                Check.due("the fault", x.openInput(), fault);
                Check.due("its place", x.statusOf(2), fresh.statusOf(2));
                Check.due("how many were opened", x.statusOf(6), fresh.statusOf(6) + (opened ? 1 : 0));
                if (fault == 0) {
                    samePicture(x, fresh);
                }
            }
        }
    }

    private static void samePicture(Subject x, Subject fresh) {
        Check.due("scans", x.statusOf(4), fresh.statusOf(4));
        Check.due("segments", x.statusOf(5), fresh.statusOf(5));
        for (int w = 0; w < 24; w++) {
            Check.due("aboutPicture(" + w + ")", x.aboutPicture(w), fresh.aboutPicture(w));
        }
        for (int c = 0; c < 2; c++) {
            for (int block = 0; block < 6; block++) {
                for (int k = 0; k < 4; k++) {
                    Check.due("coefficient", x.coefficientAt(c, block % 3, block / 3, k), fresh.coefficientAt(c, block % 3, block / 3, k));
                }
            }
            Check.due("step", x.stepAt(c, 63), fresh.stepAt(c, 63));
        }
    }
}
