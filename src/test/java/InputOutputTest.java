/** Promises 2, 3, 4 and 18: bytes come to the input, leave it, and come from the output. */
public final class InputOutputTest {
    public static void main(String[] args) {
        whichBytesCome();
        howManyBytes();
        room();
        wiping();
        takingNothing();
        taking();
        outputBytes();
        Check.end();
    }

    /** What stands in the input shows by the fault of opening it. */
    private static void whichBytesCome() {
        Check.sentence("n bytes of v, 1 .. 8, the highest first (of its lowest n), come to the INPUT: true");
        Subject x = new Subject();
        Check.due("two bytes", x.giveInput(0x77_66_55_44_33_22_ffd8L, 2), true);
        Check.due("length", x.statusOf(0), 2);
        Check.due("255, 216 and the end", x.openInput(), 1);
        Check.due("at 2", x.statusOf(2), 2);
        Check.due("eight", x.giveInput(0xff_ff_e1_00_04_99_98_21L, 8), true);
        Check.due("the eighth of these is no marker", x.openInput(), 3);
        Check.due("at 9", x.statusOf(2), 9);
        x.wipeInput();
        x.giveInput(0xd8ff, 2);
        Check.due("the other way round", x.openInput(), 2);
        for (int n = 1; n <= 8; n++) {
            x.wipeInput();
            long v = 0xffd8_ffe0_0008_1122L >> 8 * (8 - n);
            Check.due("n = " + n, x.giveInput(v, n), true);
            Check.due("length", x.statusOf(0), n);
            Check.due("the first " + n, x.openInput(), 1);
            Check.due("its length", x.statusOf(2), n);
        }
        // 255, 216 and a marker of each code: what comes is what was given, bit by bit.
        for (int code = 0; code < 255; code++) {
            Subject y = new Subject();
            y.giveInput(0xffd8ff_00_0003_07_00L | (long) code << 32, 8);
            boolean any = code >= 224 && code <= 239 || code == 254;
            int fault = any ? 3 : code == 219 || code == 196 ? 6 : code == 192 || code == 194 ? 6 : code == 221 ? 5 : 4;
            Check.due("code " + code, y.openInput(), fault);
        }
        Check.due("all bits", x.giveInput(-1, 8), true);
        x.wipeInput();
        x.giveInput(-1, 8);
        Check.due("all bits begin nothing", x.openInput(), 2);
        x.wipeInput();
        x.giveInput(Long.MIN_VALUE | 0x7fd8ffL, 3);
        Check.due("of its lowest n", x.openInput(), 2);
        x.wipeInput();
        x.giveInput(Long.MIN_VALUE | 0xffd8ffL, 3);
        Check.due("of its lowest n", x.openInput(), 1);
    }

    private static void howManyBytes() {
        Check.sentence("false if n is not as said, or there is no room.");
        Subject x = new Subject();
        x.giveInput(0xffd8, 2);
        for (int n : new int[] {0, -1, -8, 9, 10, 16, 64, 256 + 1, 65536 + 1, Integer.MAX_VALUE, Integer.MIN_VALUE}) {
            Check.due("n = " + n, x.giveInput(5, n), false);
            Check.due("nothing came", x.statusOf(0), 2);
        }
        Check.due("nothing came", x.openInput(), 1);
    }

    /** With 512 calls the input can only become full by an output that nearly fills it. */
    private static void room() {
        Check.sentence("THE INPUT has up to 16384 bytes.");
        int[][] changes = Loud.changesFor(52, 16381);
        Subject x = Loud.subject(52);
        for (int[] w : changes) {
            x.setCoefficient(3, w[0], w[1], w[2], w[3]);
        }
        Check.due("save", x.saveAs(0, 0), 16381);
        x.takeOutput();
        Check.due("taken", x.statusOf(0), 16381);
        for (int n = 8; n > 3; n--) {
            Check.due("no room for " + n, x.giveInput(-1, n), false);
            Check.due("none of these came", x.statusOf(0), 16381);
        }
        Check.due("room for three", x.giveInput(-1, 3), true);
        Check.due("full", x.statusOf(0), 16384);
        for (int n = 1; n <= 8; n++) {
            Check.due("no room for " + n, x.giveInput(-1, n), false);
        }
        Check.due("still full", x.statusOf(0), 16384);
        Check.due("a full input opens", x.openInput(), 0);
        Check.due("what it was", x.aboutPicture(4), 48 * (3 * 63 + 52));
        x.wipeInput();
        Check.due("room again", x.giveInput(1, 8), true);
        Check.due("of eight bytes", x.statusOf(0), 8);
        // One byte of room, and none.
        Subject y = Loud.subject(52);
        for (int[] w : Loud.changesFor(52, 16383)) {
            y.setCoefficient(3, w[0], w[1], w[2], w[3]);
        }
        Check.due("save", y.saveAs(0, 0), 16383);
        y.takeOutput();
        Check.due("no room for two", y.giveInput(1, 2), false);
        Check.due("room for one", y.giveInput(1, 1), true);
        Check.due("no room for one more", y.giveInput(1, 1), false);
    }

    private static void wiping() {
        Check.sentence("The INPUT is empty.");
        Subject x = new Subject();
        x.wipeInput();
        Check.due("wiped twice", x.statusOf(0), 0);
        x.giveInput(0xffd8, 2);
        x.openInput();
        x.wipeInput();
        Check.due("wiped", x.statusOf(0), 0);
        Check.due("the fault stays", x.statusOf(1), 1);
        Check.due("its place stays", x.statusOf(2), 2);
        Check.due("no input", x.openInput(), 1);
        Check.due("at 0", x.statusOf(2), 0);
        x.giveInput(0xffd8, 2);
        Check.due("from the first byte on again", x.openInput(), 1);
        Check.due("at 2", x.statusOf(2), 2);
        x.paintFrom(1, 1, 1, 0, 100);
        int length = x.saveAs(0, 0);
        x.wipeInput();
        Check.due("the output stays", x.statusOf(3), length);
        Check.due("its bytes stay", x.outputAt(1), 216);
        Check.due("the picture stays", x.aboutPicture(0), 1);
    }

    private static void takingNothing() {
        Check.sentence("The bytes of the INPUT become those of the OUTPUT (none without one), which stays.");
        Subject x = new Subject();
        x.giveInput(0xffd8, 2);
        x.takeOutput();
        Check.due("none without one", x.statusOf(0), 0);
        Check.due("still no output", x.statusOf(3), 0);
        Check.due("an empty input", x.openInput(), 1);
        Check.due("at 0", x.statusOf(2), 0);
        Check.due("it can be given again", x.giveInput(0xffd8, 2), true);
        Check.due("from the first byte on", x.openInput(), 1);
        Check.due("at 2", x.statusOf(2), 2);
    }

    private static void taking() {
        Subject x = new Subject();
        x.paintFrom(1, 1, 1, 0, 100);
        int length = x.saveAs(0, 0);
        Check.due("output", x.statusOf(3), length);
        x.giveInput(1, 8);
        x.takeOutput();
        Check.due("taken, not put behind", x.statusOf(0), length);
        Check.due("it stays", x.statusOf(3), length);
        Check.due("the same bytes", x.openInput(), 0);
        x.giveInput(0xffd8, 2);
        Check.due("more behind them", x.statusOf(0), length + 2);
        Check.due("the output is not the input", x.statusOf(3), length);
        Check.due("nothing behind it", x.outputAt(length), -1);
        x.takeOutput();
        Check.due("shorter again", x.statusOf(0), length);
        x.wipeInput();
        x.giveInput(0x1234, 2);
        Check.due("other bytes do not come to the output", x.outputAt(0), 255);
        x.takeOutput();
        Check.due("taken again", x.openInput(), 0);
        // A longer output that is taken later, then a shorter one.
        int longer = x.saveAs(2, 0);
        Check.due("longer", longer > length, true);
        x.takeOutput();
        Check.due("longer", x.statusOf(0), longer);
        Check.due("opens", x.openInput(), 0);
        x.saveAs(0, 0);
        x.takeOutput();
        Check.due("shorter", x.statusOf(0), length);
        Check.due("opens", x.openInput(), 0);
    }

    private static void outputBytes() {
        Check.sentence("Byte k of the OUTPUT; NONE if there is none.");
        Subject x = new Subject();
        for (int k : new int[] {0, 1, -1, Integer.MAX_VALUE, Integer.MIN_VALUE}) {
            Check.due("without an output", x.outputAt(k), -1);
        }
        x.paintFrom(1, 1, 1, 0, 100);
        int length = x.saveAs(0, 0);
        Parts.output("the first ones", x, 0, 255, 216, 255, 219, 0, 67, 0, 16, 22, 22);
        Parts.output("the last ones", x, length - 2, 255, 217);
        for (int k : new int[] {length, length + 1, 16383, 16384, Integer.MAX_VALUE, -1, -2, -16384, Integer.MIN_VALUE}) {
            Check.due("outputAt(" + k + ")", x.outputAt(k), -1);
        }
        int longer = x.saveAs(2, 0);
        Parts.output("the last ones of a longer one", x, longer - 2, 255, 217);
        Check.due("shorter", x.saveAs(0, 0), length);
        Check.due("nothing is left of the longer one", x.outputAt(length), -1);
    }
}
