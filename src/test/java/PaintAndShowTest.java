/** Promises 7, 8 and 13: samples become a picture, and a picture samples. */
public final class PaintAndShowTest {
    public static void main(String[] args) {
        refusals();
        steps();
        flatPictures();
        oneWave();
        bounds();
        shrinking();
        growing();
        sizes();
        nearTheSamples();
        Check.end();
    }

    private static void fill(WavePictures x, int plane, int w, int h, int sample) {
        x.canvasSize(plane, w, h);
        for (int y = 0; y < h; y++) {
            for (int left = 0; left < w; left += 8) {
                x.canvasRow(plane, left, y, 0x0101010101010101L * sample);
            }
        }
    }

    private static void set(WavePictures x, int plane, int left, int y, int sample) {
        long rest = x.canvasEight(plane, left, y) & 0x00ffffffffffffffL;
        x.canvasRow(plane, left, y, (long) sample << 56 | rest);
    }

    private static int get(WavePictures x, int plane, int left, int y) {
        return (int) (x.canvasEight(plane, left, y) >>> 56);
    }

    private static void refusals() {
        WavePictures x = new WavePictures();
        int[][] wrong = {{0, 1, 1, 0, 100}, {33, 1, 1, 0, 100}, {1, 0, 1, 0, 100}, {1, 33, 1, 0, 100},
            {1, 1, 0, 0, 100}, {1, 1, 5, 0, 100}, {1, 1, 1, 4, 100}, {1, 1, 3, 64, 100}, {1, 1, 4, 256, 100},
            {1, 1, 1, -1, 100}, {1, 1, 1, Integer.MIN_VALUE, 100}, {1, 1, 1, 0, 0}, {1, 1, 1, 0, 5001},
            {1, 1, 1, 0, -5}, {2, 1, 1, 0, 100}, {1, 2, 1, 0, 100}, {1, 1, Integer.MAX_VALUE, 0, 100}};
        for (int[] w : wrong) {
            Check.due("paintFrom", x.paintFrom(w[0], w[1], w[2], w[3], w[4]), false);
        }
        Check.due("no picture", x.aboutPicture(0), -1);
        Check.due("no picture to show", x.showAt(8, true), false);
        x.canvasSize(2, 2, 1);
        Check.due("plane 2 is larger", x.paintFrom(1, 1, 3, 0, 100), false);
        Check.due("it is not one of these", x.paintFrom(1, 1, 2, 0, 100), true);
        for (int n : new int[] {0, 3, 5, 6, 7, 9, 16, -1, Integer.MIN_VALUE}) {
            Check.due("showAt(" + n + ")", x.showAt(n, true), false);
        }
        x.canvasSize(0, 32, 32);
        Check.due("32 by 32", x.paintFrom(32, 32, 1, 3, 5000), true);
        Check.due("percent 1", x.paintFrom(32, 32, 1, 3, 1), true);
    }

    private static void steps() {
        WavePictures x = new WavePictures();
        x.paintFrom(1, 1, 2, 0, 50);
        // Half of 16, 22, 28 and of 17, 27, 37, a half up.
        int[] first = {8, 11, 11, 14, 14, 14, 17, 17, 17, 17, 20};
        int[] second = {9, 14, 14, 19, 19, 19, 24, 24, 24, 24, 29};
        for (int k = 0; k < first.length; k++) {
            Check.due("step " + k, x.stepAt(0, k), first[k]);
            Check.due("step " + k, x.stepAt(1, k), second[k]);
        }
        Check.due("last step", x.stepAt(0, 63), 50);
        Check.due("last step", x.stepAt(1, 63), 79);
        x.paintFrom(1, 1, 1, 0, 1);
        Check.due("at least 1", x.stepAt(0, 0), 1);
        Check.due("100 percent of a hundredth", x.stepAt(0, 63), 1);
        x.paintFrom(1, 1, 1, 0, 5000);
        Check.due("at most 255", x.stepAt(0, 0), 255);
        int[][] none = {{-1, 0}, {1, 0}, {0, -1}, {0, 64}, {4, 0}};
        for (int[] w : none) {
            Check.due("stepAt", x.stepAt(w[0], w[1]), -1);
        }
    }

    private static void flatPictures() {
        for (int sample = 0; sample < 256; sample += 5) {
            WavePictures x = new WavePictures();
            fill(x, 0, 9, 8, sample);
            x.paintFrom(9, 8, 1, 0, 1);
            // All others are 0 but for what rounding makes of the waves' sums, which are 0.
            Check.due("blocks", x.aboutPicture(3), 2);
            Check.due("only direct ones", x.aboutPicture(4), sample == 128 ? 0 : 2);
            int direct = x.coefficientAt(0, 0, 0, 0);
            Check.due("eight times as much", direct, 8 * (sample - 128));
            for (int n = 1; n <= 8; n *= 2) {
                Check.due("show", x.showAt(n, true), true);
                Check.due("W", x.statusOf(8), (9 * n + 7) / 8);
                Check.due("H", x.statusOf(9), n);
                Check.due("the same sample", get(x, 0, 0, n - 1), sample);
            }
        }
    }

    private static void oneWave() {
        WavePictures x = new WavePictures();
        fill(x, 0, 8, 8, 128);
        x.paintFrom(8, 8, 1, 0, 1);
        x.setCoefficient(0, 0, 0, 1, 100);
        x.showAt(8, false);
        // P(0, 1) = 5793 * 100 by 2048: 282.86, so 283; S = WAVE(8, 1, x) * 283 by 131072: of 8035, 6811, 4551, 1598.
        int[] want = {128 + 17, 128 + 15, 128 + 10, 128 + 3, 128 - 3, 128 - 10, 128 - 15, 128 - 17};
        for (int left = 0; left < 8; left++) {
            Check.due("across at " + left, get(x, 0, left, 5), want[left]);
        }
        // At size 4 the waves are those of 4: 7568 and 3135; at size 2: 5793.
        x.showAt(4, false);
        int[] four = {128 + 16, 128 + 7, 128 - 7, 128 - 16};
        for (int left = 0; left < 4; left++) {
            Check.due("across at size 4, " + left, get(x, 0, left, 3), four[left]);
        }
        x.showAt(2, false);
        Check.due("across at size 2", get(x, 0, 0, 1), 128 + 13);
        Check.due("across at size 2", get(x, 0, 1, 1), 128 - 13);
        x.showAt(1, false);
        Check.due("across at size 1", get(x, 0, 0, 0), 128);
        x.turnBy(0);
        x.showAt(8, false);
        for (int y = 0; y < 8; y++) {
            Check.due("down at " + y, get(x, 0, 5, y), want[y]);
        }
        // And forward: the wave's samples make it again.
        x.paintFrom(8, 8, 1, 0, 1);
        Check.due("the wave again", Math.abs(x.coefficientAt(0, 0, 0, 2) - 100) <= 2, true);
        Check.due("down, not across", x.coefficientAt(0, 0, 0, 1), 0);
    }

    private static void bounds() {
        WavePictures x = new WavePictures();
        fill(x, 0, 8, 8, 255);
        x.paintFrom(8, 8, 1, 0, 5000);
        for (int k = 0; k < 64; k++) {
            x.setCoefficient(0, 0, 0, k, 1023);
        }
        // Sums far beyond 31 bits: the corner has all waves at their highest.
        x.showAt(8, true);
        Check.due("at most 255", get(x, 0, 0, 0), 255);
        for (int k = 0; k < 64; k++) {
            x.setCoefficient(0, 0, 0, k, -1023);
        }
        x.showAt(8, true);
        Check.due("at least 0", get(x, 0, 0, 0), 0);
        for (int k = 1; k < 64; k++) {
            x.setCoefficient(0, 0, 0, k, 0);
        }
        x.setCoefficient(0, 0, 0, 0, -1024);
        x.showAt(1, true);
        Check.due("at least 0", get(x, 0, 0, 0), 0);
        // The coefficients of paint keep to their bounds: 0 by 0 samples of 0 are -1024.
        fill(x, 0, 8, 8, 0);
        x.paintFrom(8, 8, 1, 0, 1);
        Check.due("the lowest direct one", x.coefficientAt(0, 0, 0, 0), -1024);
        fill(x, 0, 8, 8, 255);
        x.paintFrom(8, 8, 1, 0, 1);
        Check.due("the highest direct one", x.coefficientAt(0, 0, 0, 0), 1016);
    }

    private static void shrinking() {
        WavePictures x = new WavePictures();
        // Components of one block each: 0 is of H 2, V 2, and 1, 2, 3 of 1 by 1, 1 by 2, 2 by 1.
        int shape = 0x03 | 0x02 << 4 | 0x01 << 6;
        for (int p = 0; p < 4; p++) {
            x.canvasSize(p, 3, 3);
            int[][] samples = {{10, 21, 30}, {40, 50, 60}, {71, 80, 90}};
            for (int y = 0; y < 3; y++) {
                for (int left = 0; left < 3; left++) {
                    set(x, p, left, y, samples[y][left]);
                }
            }
        }
        Check.due("paint", x.paintFrom(3, 3, 4, shape, 1), true);
        int[] across = {2, 1, 1, 2};
        int[] down = {2, 1, 2, 1};
        for (int c = 0; c < 4; c++) {
            Check.due("across", x.aboutPicture(10 + 4 * c), across[c]);
            Check.due("down", x.aboutPicture(11 + 4 * c), down[c]);
        }
        // Shown without growing (alone with its own shape) each comes back as it was shrunk.
        x.canvasSize(0, 2, 2);
        Check.due("the plane stays", x.statusOf(10), 3);
        Check.due("its samples stay", get(x, 1, 1, 0), 21);
        x.showAt(8, false);
        // BOTH: (10 + 21 + 40 + 50 + 1) / 4 = 30, (30 + 30 + 60 + 60 + 2) / 4 = 45; 71 + 80 twice + 1: 75, 90 + 2 / 4: 90.
        int[][] both = {{30, 30, 45}, {30, 30, 45}, {75, 75, 90}};
        // ACROSS: (10 + 21) / 2 = 15, (30 + 30 + 1) / 2 = 30; 45, 60; (71 + 80) / 2 = 75, 90.
        int[][] wide = {{15, 15, 30}, {45, 45, 60}, {75, 75, 90}};
        // DOWN: 25, (21 + 50) / 2 = 35, 45; (71 + 71 + 1) / 2 = 71, 80, 90.
        int[][] tall = {{25, 35, 45}, {25, 35, 45}, {71, 80, 90}};
        for (int y = 0; y < 3; y++) {
            for (int left = 0; left < 3; left++) {
                Check.due("BOTH " + left + " " + y, Math.abs(get(x, 1, left, y) - both[y][left]) <= 1, true);
                Check.due("ACROSS " + left + " " + y, Math.abs(get(x, 2, left, y) - wide[y][left]) <= 1, true);
                Check.due("DOWN " + left + " " + y, Math.abs(get(x, 3, left, y) - tall[y][left]) <= 1, true);
            }
        }
        exactShrinking();
    }

    /** Flat parts show a shrunk plane to the last bit: the direct coefficient is eight times the sample. */
    private static void exactShrinking() {
        int[] shapes = {0x03, 0x03 | 0x02 << 2, 0x03 | 0x01 << 2};
        // Of samples 101 and 102 side by side or one below the other, and 101, 102, 102, 102 for BOTH.
        for (int which = 0; which < 3; which++) {
            WavePictures x = new WavePictures();
            for (int p = 0; p < 2; p++) {
                fill(x, p, 2, 2, 102);
            }
            set(x, 1, 0, 0, 101);
            if (which == 1) {
                set(x, 1, 0, 1, 101);
            } else if (which == 2) {
                set(x, 1, 1, 0, 101);
            }
            x.paintFrom(2, 2, 2, shapes[which], 1);
            // At x = 0, y = 0: (407 + 1) / 4 is 102, (203 + 0) / 2 is 101.
            Check.due("shrunk " + which, x.coefficientAt(1, 0, 0, 0), 8 * ((which == 0 ? 102 : 101) - 128));
        }
    }

    private static void growing() {
        // Component 1 has one block, of a picture of 16 by 8, with H 2 and 1: its samples grow across.
        WavePictures x = new WavePictures();
        for (int p = 0; p < 2; p++) {
            fill(x, p, 16, 8, 128);
        }
        x.paintFrom(16, 8, 2, 0x01, 1);
        x.setCoefficient(1, 0, 0, 1, 100);
        int[] old = {145, 143, 138, 131, 125, 118, 113, 111};
        x.showAt(8, false);
        for (int left = 0; left < 16; left++) {
            Check.due("boxes at " + left, get(x, 1, left, 3), old[left / 2]);
        }
        x.showAt(8, true);
        // (3 * 145 + 145 + 1) / 4, (3 * 145 + 143 + 2) / 4, (3 * 143 + 145 + 1) / 4, (3 * 143 + 138 + 2) / 4, ..
        int[] want = {145, 145, 143, 142, 139, 136, 133, 130, 126, 123, 120, 117, 114, 113, 111, 111};
        for (int left = 0; left < 16; left++) {
            Check.due("triangles at " + left, get(x, 1, left, 3), want[left]);
        }
        x.turnBy(0);
        x.showAt(8, true);
        Check.due("W", x.statusOf(8), 8);
        for (int y = 0; y < 16; y++) {
            Check.due("triangles down at " + y, get(x, 1, 3, y), want[y]);
        }
        // What is cut away ahead of growing is not there beside: 13 across are 7 of the eight.
        x.turnBy(0);
        Parts.give(x, Parts.join(Parts.START, Parts.quantiser(0, 1), Parts.words(0, 0), Parts.words(16, 0, 7),
            Parts.frame(192, 8, 13, 1, 33, 0, 2, 17, 0), Parts.scan(0, 63, 0, 1, 0, 2, 0),
            Parts.data("0 0 0 0", "0 10 1100100 0"), Parts.END));
        Check.due("open", x.openInput(), 0);
        Check.due("the wave", x.coefficientAt(1, 0, 0, 1), 100);
        x.showAt(8, true);
        Check.due("W", x.statusOf(10), 13);
        for (int left = 0; left < 13; left++) {
            Check.due("triangles at " + left, get(x, 1, left, 0), want[left]);
        }
        Parts.give(x, Parts.join(Parts.START, Parts.quantiser(0, 1), Parts.words(0, 0), Parts.words(16, 0, 7),
            Parts.frame(192, 8, 14, 1, 33, 0, 2, 17, 0), Parts.scan(0, 63, 0, 1, 0, 2, 0),
            Parts.data("0 0 0 0", "0 10 1100100 0"), Parts.END));
        Check.due("open", x.openInput(), 0);
        x.showAt(8, true);
        Check.due("the last one has none beside", get(x, 1, 13, 0), 113);
    }

    private static void sizes() {
        for (int side = 1; side <= 64; side++) {
            WavePictures x = new WavePictures();
            int units = (side + 7) / 8;
            Parts.give(x, Parts.join(Parts.START, Parts.quantiser(0, 1), Parts.words(0, 0), Parts.words(16, 0),
                Parts.frame(192, side, side, 1, 17, 0), Parts.scan(0, 63, 0, 1, 0),
                Parts.data("00".repeat(units * units)), Parts.END));
            Check.due("open", x.openInput(), 0);
            x.canvasSize(1, 5, 6);
            for (int n = 1; n <= 8; n *= 2) {
                int want = (side * n + 7) / 8;
                Check.due("show " + side + " at " + n, x.showAt(n, false), want <= 32);
                if (want <= 32) {
                    Check.due("W", x.statusOf(8), want);
                    Check.due("H", x.statusOf(9), want);
                }
            }
            Check.due("other planes stay", x.statusOf(10), 5);
        }
    }

    /** With the finest steps a picture shows nearly what it was painted from. */
    private static void nearTheSamples() {
        WavePictures x = new WavePictures();
        for (int w = 1; w <= 32; w += 3) {
            for (int h = 1; h <= 32; h += 5) {
                fill(x, 0, w, h, 0);
                for (int y = 0; y < h; y++) {
                    for (int left = 0; left < w; left++) {
                        set(x, 0, left, y, (left * 37 + y * 59 + left * y) & 255);
                    }
                }
                Check.due("paint", x.paintFrom(w, h, 1, 0, 1), true);
                x.canvasSize(0, 1, 1);
                Check.due("show", x.showAt(8, true), true);
                for (int y = 0; y < h; y++) {
                    for (int left = 0; left < w; left++) {
                        int off = get(x, 0, left, y) - ((left * 37 + y * 59 + left * y) & 255);
                        Check.due("near at " + left + ", " + y, Math.abs(off) <= 2, true);
                    }
                }
            }
        }
    }
}
