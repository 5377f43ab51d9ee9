/** Promises 14 to 17: the planes of the canvas. */
public final class CanvasTest {
    public static void main(String[] args) {
        sizes();
        rows();
        mixes();
        mixesThatAreNone();
        Check.end();
    }

    private static void sizes() {
        WavePictures x = new WavePictures();
        int[][] wrong = {{-1, 1, 1}, {4, 1, 1}, {0, 0, 1}, {0, 33, 1}, {0, 1, 0}, {0, 1, 33}, {0, -1, -1},
            {Integer.MIN_VALUE, 1, 1}, {0, Integer.MAX_VALUE, 1}};
        for (int[] w : wrong) {
            Check.due("canvasSize", x.canvasSize(w[0], w[1], w[2]), false);
        }
        Check.due("nothing changed", x.statusOf(8), 1);
        for (int p = 0; p < 4; p++) {
            Check.due("canvasSize", x.canvasSize(p, 32, 3 + p), true);
            Check.due("W", x.statusOf(8 + 2 * p), 32);
            Check.due("H", x.statusOf(9 + 2 * p), 3 + p);
        }
        x.canvasRow(1, 30, 2, -1L);
        Check.due("a sample", x.canvasEight(1, 24, 2), 0xffff);
        Check.due("the same size again", x.canvasSize(1, 32, 4), true);
        Check.due("is 0 again", x.canvasEight(1, 24, 2), 0);
    }

    private static void rows() {
        WavePictures x = new WavePictures();
        x.canvasSize(0, 11, 2);
        Check.due("eight", x.canvasRow(0, 0, 0, 0x0102030405060708L), true);
        Check.due("three", x.canvasRow(0, 8, 0, 0x8a8b8c8d8e8f0000L), true);
        Check.due("one", x.canvasRow(0, 10, 1, -1L), true);
        Check.due("from 0", x.canvasEight(0, 0, 0), 0x0102030405060708L);
        Check.due("from 5", x.canvasEight(0, 5, 0), 0x0607088a8b8c0000L);
        Check.due("from 10", x.canvasEight(0, 10, 0), 0x8c00000000000000L);
        Check.due("from 11", x.canvasEight(0, 11, 0), 0);
        Check.due("from -3", x.canvasEight(0, -3, 0), 0x0000000102030405L);
        Check.due("from -7", x.canvasEight(0, -7, 0), 1);
        Check.due("from -8", x.canvasEight(0, -8, 0), 0);
        Check.due("the next row", x.canvasEight(0, 4, 1), 0xff00L);
        Check.due("over", x.canvasRow(0, 1, 0, 0), true);
        Check.due("over it", x.canvasEight(0, 0, 0), 0x0100000000000000L);
        Check.due("beyond it", x.canvasEight(0, 8, 0), 0x008b8c0000000000L);
        int[][] none = {{-1, 0, 0}, {4, 0, 0}, {0, -1, 0}, {0, 11, 0}, {0, 0, -1}, {0, 0, 2}, {1, 1, 0}, {1, 0, 1},
            {0, Integer.MAX_VALUE, 0}, {0, Integer.MIN_VALUE, 0}, {0, 0, Integer.MAX_VALUE}};
        for (int[] w : none) {
            Check.due("canvasRow", x.canvasRow(w[0], w[1], w[2], -1L), false);
            if (w[1] != -1) {
                Check.due("canvasEight", x.canvasEight(w[0], w[1], w[2]), 0);
            }
        }
        Check.due("nothing changed", x.canvasEight(0, 4, 1), 0xff00L);
        Check.due("nothing changed", x.canvasEight(1, 0, 0), 0);
    }

    private static int[] mix(int which, int a, int b, int c, int d) {
        WavePictures x = new WavePictures();
        int[] given = {a, b, c, d};
        int[] now = new int[4];
        for (int p = 0; p < 4; p++) {
            x.canvasSize(p, 2, 3);
            x.canvasRow(p, 1, 2, (long) given[p] << 56);
        }
        Check.due("mixCanvas(" + which + ")", x.mixCanvas(which), true);
        for (int p = 0; p < 4; p++) {
            now[p] = (int) x.canvasEight(p, -6, 2) & 255;
        }
        return now;
    }

    private static void due(int which, int[] given, int... want) {
        int[] got = mix(which, given[0], given[1], given[2], given[3]);
        for (int p = 0; p < 4; p++) {
            Check.due("mix " + which + " plane " + p, got[p], p < 3 ? want[p] : given[3]);
        }
    }

    private static void mixes() {
        due(0, new int[] {100, 128, 128, 9}, 100, 100, 100);
        // q = 72: 91881 * 72 = 6615432, + 32768 by 65536 is 101.4; p = -28: 631512 - 3369744 + 32768 is -41.3 of them.
        due(0, new int[] {100, 100, 200, 9}, 201, 58, 50);
        due(0, new int[] {200, 255, 255, 9}, 255, 66, 255);
        due(0, new int[] {10, 0, 0, 9}, 0, 145, 0);
        due(1, new int[] {255, 255, 255, 0}, 255, 128, 128);
        due(1, new int[] {255, 0, 0, 0}, 76, 85, 255);
        due(1, new int[] {0, 255, 0, 0}, 150, 44, 21);
        due(1, new int[] {0, 0, 255, 0}, 29, 255, 107);
        due(2, new int[] {0, 255, 100, 7}, 255, 0, 155);
        due(3, new int[] {255, 100, 1, 0}, 255, 100, 1);
        due(3, new int[] {255, 100, 1, 255}, 0, 0, 0);
        // 255 - d = 127: 100 * 127 = 12700, + 127 by 255 is 50.3; 127 + 127 by 255 is 0.99
        due(3, new int[] {255, 100, 1, 128}, 127, 50, 0);
        due(3, new int[] {255, 100, 1, 127}, 128, 50, 1);
        due(4, new int[] {255, 0, 0, 3}, 76, 76, 76);
        due(4, new int[] {1, 2, 3, 3}, 2, 2, 2);
        due(5, new int[] {100, 100, 200, 9}, 54, 197, 205);
        due(6, new int[] {255, 0, 255, 0}, 150, 44, 21);
    }

    private static void mixesThatAreNone() {
        WavePictures x = new WavePictures();
        for (int which : new int[] {-1, 7, Integer.MAX_VALUE, Integer.MIN_VALUE}) {
            Check.due("mix " + which, x.mixCanvas(which), false);
        }
        x.canvasSize(3, 2, 1);
        for (int which = 0; which < 7; which++) {
            Check.due("plane 3 is larger, mix " + which, x.mixCanvas(which), which != 3);
        }
        x.canvasSize(1, 1, 2);
        for (int which = 0; which < 7; which++) {
            Check.due("plane 1 is larger, mix " + which, x.mixCanvas(which), false);
        }
        x.canvasSize(0, 1, 2);
        long samples = x.canvasEight(0, 0, 0);
        for (int which = 0; which < 7; which++) {
            Check.due("plane 2 is smaller, mix " + which, x.mixCanvas(which), false);
        }
        Check.due("nothing changed", x.canvasEight(0, 0, 0), samples);
        x.canvasSize(2, 1, 2);
        Check.due("all alike", x.mixCanvas(2), true);
        Check.due("all rows", x.canvasEight(2, 0, 1), 0xff00000000000000L);
    }
}
