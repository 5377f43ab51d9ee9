/** Promise 1: a new object has no input, no picture, no output and planes of one sample. */
public final class NewObjectTest {
    public static void main(String[] args) {
        WavePictures x = new WavePictures();
        Check.due("NONE", WavePictures.NONE, -1);
        int[] status = {0, 0, -1, 0, 0, 0, 0, -1, 1, 1, 1, 1, 1, 1, 1, 1, -1};
        for (int w = 0; w < status.length; w++) {
            Check.due("statusOf(" + w + ")", x.statusOf(w), status[w]);
        }
        for (int w = -2; w < 30; w++) {
            Check.due("aboutPicture(" + w + ")", x.aboutPicture(w), -1);
        }
        Check.due("outputAt(0)", x.outputAt(0), -1);
        Check.due("coefficientAt", x.coefficientAt(0, 0, 0, 0), 0);
        Check.due("stepAt", x.stepAt(0, 0), -1);
        for (int plane = 0; plane < 4; plane++) {
            Check.due("canvasEight", x.canvasEight(plane, 0, 0), 0);
        }
        x.takeOutput();
        Check.due("statusOf(0) with no output taken", x.statusOf(0), 0);
        Check.due("openInput", x.openInput(), 1);
        Check.due("its place", x.statusOf(2), 0);
        Check.end();
    }
}
