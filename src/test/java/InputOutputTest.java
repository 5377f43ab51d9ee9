/** Promises 2, 3, 4, 18 and 20: bytes come to the input, leave it, and come from the output. */
public final class InputOutputTest {
    public static void main(String[] args) {
        whichBytesCome();
        room();
        output();
        status();
        Check.end();
    }

    /** What stands in the input shows by the fault of opening it. */
    private static void whichBytesCome() {
        WavePictures x = new WavePictures();
        Check.due("two bytes", x.giveInput(0x77_66_55_44_33_22_ffd8L, 2), true);
        Check.due("length", x.statusOf(0), 2);
        Check.due("255, 216 and the end", x.openInput(), 1);
        Check.due("at 2", x.statusOf(2), 2);
        x.giveInput(0xff_ff_e1_00_04_99_98_21L, 8);
        Check.due("the eighth of these is no marker", x.openInput(), 3);
        Check.due("at 9", x.statusOf(2), 9);
        x.wipeInput();
        Check.due("wiped", x.statusOf(0), 0);
        Check.due("no input", x.openInput(), 1);
        Check.due("at 0", x.statusOf(2), 0);
        x.giveInput(0xd8ff, 2);
        Check.due("the other way round", x.openInput(), 2);
        for (int n = 1; n <= 8; n++) {
            x.wipeInput();
            long v = 0xffd8_ffe0_0008_1122L >> 8 * (8 - n);
            Check.due("n = " + n, x.giveInput(v, n), true);
            Check.due("the first " + n, x.openInput(), 1);
            Check.due("its length", x.statusOf(2), n);
        }
        x.wipeInput();
        Check.due("all bits", x.giveInput(-1, 8), true);
        Check.due("all bits begin nothing", x.openInput(), 2);
    }

    private static void room() {
        WavePictures x = new WavePictures();
        for (int n : new int[] {0, -1, 9, Integer.MAX_VALUE, Integer.MIN_VALUE}) {
            Check.due("n = " + n, x.giveInput(5, n), false);
        }
        Check.due("nothing came", x.statusOf(0), 0);
        for (int k = 0; k < 2047; k++) {
            Check.due("eight more", x.giveInput(k, 8), true);
        }
        Check.due("five more", x.giveInput(1, 5), true);
        Check.due("four more", x.giveInput(1, 4), false);
        Check.due("length", x.statusOf(0), 16381);
        Check.due("three more", x.giveInput(1, 3), true);
        Check.due("full", x.statusOf(0), 16384);
        Check.due("one more", x.giveInput(1, 1), false);
        Check.due("still full", x.statusOf(0), 16384);
        x.wipeInput();
        Check.due("room again", x.giveInput(1, 1), true);
    }

    private static void output() {
        WavePictures x = new WavePictures();
        x.giveInput(1, 1);
        x.takeOutput();
        Check.due("no output to take", x.statusOf(0), 0);
        x.paintFrom(1, 1, 1, 0, 100);
        int length = x.saveAs(0, 0);
        Check.due("output", x.statusOf(3), length);
        x.giveInput(1, 8);
        x.takeOutput();
        Check.due("taken", x.statusOf(0), length);
        Check.due("it stays", x.statusOf(3), length);
        Check.due("the same bytes", x.openInput(), 0);
        int[] bytes = {255, 216, 255, 219, 0, 67, 0, 16, 22, 22};
        for (int k = 0; k < bytes.length; k++) {
            Check.due("outputAt(" + k + ")", x.outputAt(k), bytes[k]);
        }
        Check.due("last but one", x.outputAt(length - 2), 255);
        Check.due("last", x.outputAt(length - 1), 217);
        Check.due("behind", x.outputAt(length), -1);
        Check.due("ahead", x.outputAt(-1), -1);
        Check.due("far behind", x.outputAt(Integer.MAX_VALUE), -1);
        Check.due("far ahead", x.outputAt(Integer.MIN_VALUE), -1);
        x.wipeInput();
        Check.due("wiping leaves it", x.outputAt(1), 216);
    }

    private static void status() {
        WavePictures x = new WavePictures();
        x.canvasSize(2, 7, 9);
        Check.due("W of plane 2", x.statusOf(12), 7);
        Check.due("H of plane 2", x.statusOf(13), 9);
        Check.due("W of plane 3", x.statusOf(14), 1);
        for (int which : new int[] {7, 16, 17, -1, -8, Integer.MAX_VALUE, Integer.MIN_VALUE}) {
            Check.due("statusOf(" + which + ")", x.statusOf(which), -1);
        }
    }
}
