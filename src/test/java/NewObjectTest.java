/** Promise 1: a new object has no input, no picture, no output, and a canvas of planes with one sample, 0. */
public final class NewObjectTest {
    public static void main(String[] args) {
        nothingIsThere();
        aCanvasIs();
        nothingCanBeDone();
        theLastCall();
        Check.end();
    }

    private static void nothingIsThere() {
        Check.sentence("No INPUT, no PICTURE, no OUTPUT.");
        Subject x = new Subject();
        int[] status = {0, 0, -1, 0, 0, 0, 0, -1};
        for (int w = 0; w < status.length; w++) {
            Check.due("statusOf(" + w + ")", x.statusOf(w), status[w]);
        }
        for (int w = -2; w < 30; w++) {
            Check.due("aboutPicture(" + w + ")", x.aboutPicture(w), -1);
        }
        Check.due("outputAt(0)", x.outputAt(0), -1);
        Check.due("coefficientAt", x.coefficientAt(0, 0, 0, 0), 0);
        Check.due("stepAt", x.stepAt(0, 0), -1);
        Check.sentence("`NONE = -1`: There is none.");
        Check.due("NONE", WavePictures.NONE, -1);
    }

    private static void aCanvasIs() {
        Check.sentence("each W by H samples, 1 .. 32 each (1 by 1 and 0 at first)");
        Subject x = new Subject();
        for (int plane = 0; plane < 4; plane++) {
            Canvas.due("at first", x, plane, new int[][] {{0}});
            Check.due("beside it", x.canvasRow(plane, 1, 0, -1), false);
            Check.due("below it", x.canvasRow(plane, 0, 1, -1), false);
        }
        Check.due("all planes are alike", x.mixCanvas(3), true);
        // Samples of 0 make a direct coefficient: -1024 by 16.
        Check.due("it can be painted", x.paintFrom(1, 1, 4, 0, 100), true);
        Check.due("of samples 0", x.coefficientAt(0, 0, 0, 0), -64);
    }

    private static void nothingCanBeDone() {
        Check.sentence("THE PICTURE (none at first)");
        Subject x = new Subject();
        for (int script = 0; script < 3; script++) {
            Check.due("saveAs", x.saveAs(script, 0), -1);
        }
        for (int n = 1; n <= 8; n *= 2) {
            Check.due("showAt", x.showAt(n, true), false);
            Check.due("showAt", x.showAt(n, false), false);
        }
        for (int kind = 0; kind < 6; kind++) {
            Check.due("turnBy", x.turnBy(kind), false);
        }
        Check.due("cropTo", x.cropTo(0, 0, 1, 1), false);
        Check.due("setCoefficient", x.setCoefficient(0, 0, 0, 0, 0), false);
        Check.due("coefficientAt", x.coefficientAt(0, 0, 0, 0), 0);
        Check.due("still none", x.aboutPicture(0), -1);
        Check.due("still no output", x.statusOf(3), 0);
        Check.sentence("the INPUT ends where a byte is to be read (its length; of no byte 0, of a byte 255 alone 1)");
        Check.due("openInput", x.openInput(), 1);
        Check.due("its place", x.statusOf(2), 0);
    }

    /** Not by a Subject, which would take a new object: this one is to answer till the end. */
    private static void theLastCall() {
        Check.sentence("An object is used for at most 512 calls after it has been made; what later calls answer is free.");
        WavePictures x = new WavePictures();
        for (int call = 0; call < 510; call++) {
            Check.due("call " + call, x.giveInput(call, 8), true);
        }
        Check.due("call 511", x.openInput(), 2);
        Check.due("call 512", x.statusOf(0), 8 * 510);
        WavePictures y = new WavePictures();
        for (int call = 0; call < 511; call++) {
            y.canvasSize(3, 1 + call % 32, 1);
        }
        Check.due("call 512", y.statusOf(14), 1 + 510 % 32);
    }
}
