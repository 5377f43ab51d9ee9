/** Promises 5 and 20: what is told of the input, the latest fault, the output, the latest file and the planes. */
public final class StatusTest {
    public static void main(String[] args) {
        bytes();
        faults();
        noFaultAnyMore();
        latestFile();
        whatStays();
        planes();
        none();
        Check.end();
    }

    private static void status(String what, Subject x, int... want) {
        for (int k = 0; k < want.length; k++) {
            Check.due(what + ": statusOf(" + k + ")", x.statusOf(k), want[k]);
        }
    }

    private static void bytes() {
        Check.sentence("which 0: bytes of the INPUT,");
        Subject x = new Subject();
        int all = 0;
        for (int n = 1; n <= 8; n++) {
            x.giveInput(n, n);
            all += n;
            Check.due("bytes", x.statusOf(0), all);
        }
        x.giveInput(0, 9);
        Check.due("bytes", x.statusOf(0), all);
        x.wipeInput();
        Check.due("none", x.statusOf(0), 0);
        Check.sentence("3: bytes of the OUTPUT (0 without one),");
        Check.due("without one", x.statusOf(3), 0);
        x.paintFrom(1, 1, 1, 0, 100);
        Check.due("still without one", x.statusOf(3), 0);
        int whole = x.saveAs(0, 0);
        Check.due("output", x.statusOf(3), whole);
        int progressive = x.saveAs(2, 3);
        Check.due("the latest", x.statusOf(3), progressive);
        x.saveAs(3, 0);
        Check.due("it stays", x.statusOf(3), progressive);
    }

    private static void faults() {
        Check.sentence("1: the fault of the latest openInput() (0 without one), 2: its place (NONE without one),");
        Subject x = new Subject();
        status("at first", x, 0, 0, -1, 0, 0, 0, 0, -1);
        x.openInput();
        status("of no byte", x, 0, 1, 0, 0, 0, 0, 0, -1);
        x.giveInput(0xff, 1);
        status("until it is opened again", x, 1, 1, 0, 0, 0, 0, 0, -1);
        x.openInput();
        status("of 255 alone", x, 1, 1, 1, 0, 0, 0, 0, -1);
        x.giveInput(0xd9, 1);
        x.openInput();
        status("of 255, 217", x, 2, 2, 0, 0, 0, 0, 0, -1);
        // One of each fault: the place of 9 is none, that of 10 and more the number of the scan.
        int[] names = {1, 17, 0, 2, 17, 0, 3, 17, 0, 4, 17, 0};
        int[][][] files = {
            {Tiny.S}, {{216}}, {Tiny.S, {1}}, {Tiny.S, Tiny.E}, {Tiny.S, {255, 254, 0, 1}}, {Tiny.S, Parts.quantiser(4, 1)},
            {Tiny.TABLES, Tiny.FRAME, Parts.scan(0, 63, 0, 2, 0)}, {Tiny.S, Tiny.FRAME, Tiny.SCAN},
            {Tiny.TABLES, Parts.frame(192, 64, 64, names), Parts.scan(0, 63, 0, 1, 0, 2, 0, 3, 0, 4, 0), Tiny.E},
            {Tiny.TABLES, Tiny.PROGRESSIVE, Tiny.DIRECT, Tiny.BIT, Parts.scan(1, 63, 10, 1, 0), Tiny.BIT, Tiny.E},
            {Tiny.TABLES, Tiny.PROGRESSIVE, Tiny.DIRECT, Tiny.BIT, Parts.scan(1, 63, 0, 1, 0), Tiny.E},
            {Tiny.TABLES, Tiny.FRAME, Tiny.SCAN, Parts.data("01"), Tiny.E},
            {Tiny.S, Tiny.Q, Tiny.DC, Parts.words(16, 11), Tiny.FRAME, Tiny.SCAN, Parts.data("00"), Tiny.E},
            {Tiny.TABLES, Tiny.FRAME, Tiny.SCAN, Parts.data("110 11111111111 0"), Tiny.E},
            {Tiny.TABLES, Tiny.FRAME, Tiny.SCAN, Parts.data("00000000"), Tiny.E}};
        int[] places = {2, 0, 2, 3, 4, 6, Tiny.HEAD + 13 + 5, 2 + 13 + 5, -1, 1, 1, 0, 0, 0, 0};
        for (int k = 0; k < files.length; k++) {
            Subject y = new Subject();
            Parts.give(y, files[k]);
            int length = y.statusOf(0);
            Check.due("fault " + (k + 1), y.openInput(), k + 1);
            status("fault " + (k + 1), y, length, k + 1, places[k], 0, 0, 0, 0, -1);
            Check.due("no picture", y.aboutPicture(0), -1);
        }
    }

    private static void noFaultAnyMore() {
        Check.sentence("(0 without one)");
        Subject x = new Subject();
        x.openInput();
        Parts.give(x, Tiny.FILE);
        Check.due("a good file", x.openInput(), 0);
        status("a good file", x, Tiny.FILE.length, 0, -1, 0, 1, 5, 1, -1);
        x.giveInput(1, 1);
        Check.due("the same again", x.openInput(), 0);
        status("the same again", x, Tiny.FILE.length + 1, 0, -1, 0, 1, 5, 2, -1);
        x.wipeInput();
        Check.due("none", x.openInput(), 1);
        status("none", x, 0, 1, 0, 0, 1, 5, 2, -1);
    }

    private static void latestFile() {
        Check.sentence("4: SCANS of the latest FILE that was OPENED, 5: its SEGMENTS (0 without), 6: how many were OPENED;");
        Subject x = new Subject();
        int[] good = Parts.join(Tiny.S, Parts.segment(254, 1, 2), Tiny.Q, Tiny.DC, Tiny.AC, Tiny.FRAME, Tiny.SCAN, Tiny.BITS,
            Parts.segment(239), Tiny.E);
        Parts.give(x, good);
        Check.due("open", x.openInput(), 0);
        status("a file", x, good.length, 0, -1, 0, 1, 7, 1);
        int[] three = Parts.join(Tiny.TABLES, Parts.frame(194, 0, 8, 1, 17, 0, 2, 17, 0), Parts.scan(0, 0, 1, 1, 0), Tiny.BIT,
            Parts.lines(8), Parts.interval(0), Parts.scan(0, 0, 1, 2, 0), Tiny.BIT, Parts.scan(0, 0, 0x10, 1, 0, 2, 0),
            new int[] {0x3f}, Tiny.E, Parts.segment(254), Tiny.E);
        Parts.give(x, three);
        Check.due("open another", x.openInput(), 0);
        status("another", x, three.length, 0, -1, 0, 3, 9, 2);
        // A picture that is painted is no file.
        x.paintFrom(1, 1, 1, 0, 100);
        status("a picture painted", x, three.length, 0, -1, 0, 3, 9, 2);
        x.saveAs(0, 0);
        x.takeOutput();
        status("an output taken", x, 138, 0, -1, 138, 3, 9, 2);
        x.openInput();
        status("and opened", x, 138, 0, -1, 138, 1, 4, 3);
    }

    private static void whatStays() {
        Check.sentence("else the fault (statusOf(1) and (2) tell of it; all else stays).");
        Subject x = new Subject();
        int[] good = Parts.join(Tiny.S, Parts.segment(254, 1, 2), Tiny.Q, Tiny.DC, Tiny.AC, Tiny.FRAME, Tiny.SCAN, Tiny.BITS, Tiny.E);
        Parts.give(x, good);
        x.openInput();
        x.setCoefficient(0, 0, 0, 5, 77);
        int saved = x.saveAs(0, 0);
        // Each of these has another frame, other steps and other coefficients, and a fault at its end.
        int[] head = Parts.join(Tiny.S, Parts.quantiser(0, 99), Parts.words(0, 1), Parts.words(16, 0));
        int[][] wrong = {
            Parts.join(head, Parts.frame(192, 16, 16, 1, 17, 0, 2, 17, 0), Tiny.SCAN, Parts.data("0 1 0".repeat(4)), Tiny.E),
            Parts.join(head, Parts.frame(192, 16, 16, 1, 17, 0), Tiny.SCAN, Parts.data("0 1 0".repeat(4), "00000000"), Tiny.E),
            Parts.join(head, Parts.frame(192, 16, 16, 1, 17, 0), Tiny.SCAN, Parts.data("0 1 0".repeat(4)), new int[] {255}),
            Parts.join(head, Parts.frame(194, 16, 16, 1, 17, 0), Tiny.DIRECT, Parts.data("01010101"),
                Parts.scan(1, 63, 11, 1, 0), Tiny.BIT, Tiny.E)};
        int[] faults = {4, 15, 1, 10};
        int[] places = {head.length + 16 + 10 + 2 + 1, 0, wrong[2].length, 1};
        for (int k = 0; k < wrong.length; k++) {
            Parts.give(x, wrong[k]);
            for (int turn = 0; turn < 2; turn++) {
                Check.due("a fault", x.openInput(), faults[k]);
                status("a fault", x, wrong[k].length, faults[k], places[k], saved, 1, 6, 1);
                Check.due("the picture stays", x.coefficientAt(0, 0, 0, 5), 77);
                Check.due("its amounts stay", x.aboutPicture(5), 77);
                Check.due("its width stays", x.aboutPicture(0), 8);
                Check.due("its components stay", x.aboutPicture(2), 1);
                Check.due("its steps stay", x.stepAt(0, 63), 7);
                Check.due("the output stays", x.outputAt(saved - 1), 217);
            }
        }
        Check.due("it can be saved as before", x.saveAs(0, 0), saved);
        Check.sentence("The INPUT (which stays) is OPENED: 0, and that is the PICTURE;");
        Parts.give(x, good);
        for (int turn = 2; turn < 5; turn++) {
            Check.due("again", x.openInput(), 0);
            status("again", x, good.length, 0, -1, saved, 1, 6, turn);
            Check.due("that is the picture", x.coefficientAt(0, 0, 0, 5), 0);
        }
    }

    private static void planes() {
        Check.sentence("8 + 2 * p: W of plane p, + 1 its H.");
        Subject x = new Subject();
        for (int k = 8; k < 16; k++) {
            Check.due("statusOf(" + k + ")", x.statusOf(k), 1);
        }
        for (int p = 0; p < 4; p++) {
            x.canvasSize(p, 7 + p, 32 - p);
        }
        for (int p = 0; p < 4; p++) {
            Check.due("W of plane " + p, x.statusOf(8 + 2 * p), 7 + p);
            Check.due("H of plane " + p, x.statusOf(9 + 2 * p), 32 - p);
        }
        Parts.give(x, Tiny.FILE);
        x.openInput();
        x.showAt(2, true);
        Check.due("W of plane 0", x.statusOf(8), 2);
        Check.due("H of plane 0", x.statusOf(9), 2);
        Check.due("W of plane 1", x.statusOf(10), 8);
    }

    private static void none() {
        Check.sentence("NONE for any other which.");
        Subject x = new Subject();
        for (int which : new int[] {7, 16, 17, 18, 24, 256, -1, -2, -8, Integer.MAX_VALUE, Integer.MIN_VALUE,
            Integer.MIN_VALUE + 8, Integer.MAX_VALUE - 7}) {
            Check.due("statusOf(" + which + ")", x.statusOf(which), -1);
        }
    }
}
