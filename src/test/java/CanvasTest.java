import java.util.Random;

/** Promises 14 to 17: the planes of the canvas. */
public final class CanvasTest {
    public static void main(String[] args) {
        sizes();
        sizesThatAreNot();
        rows();
        rowsThatAreCut();
        rowsThatAreNot();
        eights();
        eightsBelowZero();
        eightsThatAreNot();
        openMix();
        closeMix();
        invertMix();
        darkenMix();
        greyMix();
        doubleMixes();
        allOfOpen();
        allPlaces();
        mixesThatAreNone();
        planesOfOtherSizes();
        mixesByChance();
        Check.end();
    }

    private static void sizes() {
        Check.sentence("A plane of the CANVAS becomes w by h, samples 0: true;");
        for (int p = 0; p < 4; p++) {
            Subject x = new Subject();
            int[][] sizes = {{1, 1}, {32, 1}, {1, 32}, {32, 32}, {7, 9}};
            for (int[] size : sizes) {
                Check.due("canvasSize", x.canvasSize(p, size[0], size[1]), true);
                Canvas.due("new", x, p, Canvas.flat(size[0], size[1], 0));
                for (int other = 0; other < 4; other++) {
                    if (other != p) {
                        Canvas.due("another plane", x, other, new int[][] {{0}});
                    }
                }
            }
        }
        Subject x = new Subject();
        Canvas.put(x, 1, Canvas.flat(9, 4, 255));
        Check.due("the same size again", x.canvasSize(1, 9, 4), true);
        Canvas.due("is 0 again", x, 1, Canvas.flat(9, 4, 0));
        // What was there ahead of becoming smaller does not come back.
        Canvas.put(x, 1, Canvas.flat(32, 32, 200));
        x.canvasSize(1, 2, 2);
        Canvas.due("smaller", x, 1, Canvas.flat(2, 2, 0));
        x.canvasSize(1, 32, 32);
        Canvas.due("large again", x, 1, Canvas.flat(32, 32, 0));
    }

    private static void sizesThatAreNot() {
        Check.sentence("false if there is no such plane, or w or h is not 1 .. 32.");
        Subject x = new Subject();
        for (int p = 0; p < 4; p++) {
            Canvas.put(x, p, Canvas.flat(5, 6, 10 + p));
        }
        for (int plane : new int[] {-1, -2, 4, 5, 256, Integer.MAX_VALUE, Integer.MIN_VALUE}) {
            Check.due("plane " + plane, x.canvasSize(plane, 1, 1), false);
        }
        for (int p = 0; p < 4; p++) {
            for (int side : new int[] {0, -1, 33, 34, 256 + 1, Integer.MAX_VALUE, Integer.MIN_VALUE}) {
                Check.due("W " + side, x.canvasSize(p, side, 1), false);
                Check.due("H " + side, x.canvasSize(p, 1, side), false);
            }
            Canvas.due("it stays", x, p, Canvas.flat(5, 6, 10 + p));
        }
    }

    private static void rows() {
        Check.sentence("Eight samples (x, y) .. (x + 7, y) of a plane, as far as there are such, from the highest byte on: true;");
        for (int p = 0; p < 4; p++) {
            Subject x = new Subject();
            x.canvasSize(p, 20, 3);
            Check.due("eight", x.canvasRow(p, 3, 1, 0x0102030405060708L), true);
            int[][] want = Canvas.flat(20, 3, 0);
            for (int k = 0; k < 8; k++) {
                want[1][3 + k] = k + 1;
            }
            Canvas.due("eight", x, p, want);
            Check.due("eight high ones", x.canvasRow(p, 0, 2, 0xfffefd8281807f00L), true);
            int[] high = {255, 254, 253, 130, 129, 128, 127, 0};
            System.arraycopy(high, 0, want[2], 0, 8);
            Canvas.due("eight high ones", x, p, want);
            Check.due("over some of these", x.canvasRow(p, 4, 2, 0x1112131415161718L), true);
            for (int k = 0; k < 8; k++) {
                want[2][4 + k] = 17 + k;
            }
            Canvas.due("over some of these", x, p, want);
        }
    }

    private static void rowsThatAreCut() {
        Check.sentence("as far as there are such");
        for (int w = 1; w <= 32; w++) {
            for (int left = Math.max(0, w - 9); left < w; left++) {
                Subject x = new Subject();
                x.canvasSize(2, w, 2);
                Check.due("from " + left + " of " + w, x.canvasRow(2, left, 0, 0x0102030405060708L), true);
                int[][] want = Canvas.flat(w, 2, 0);
                for (int k = 0; k < 8 && left + k < w; k++) {
                    want[0][left + k] = k + 1;
                }
                // The next row stays: a row does not go on there.
                Canvas.due("from " + left + " of " + w, x, 2, want);
            }
        }
        // Nor does it show when the plane becomes a part of a picture: the last column is taken again.
        Subject x = new Subject();
        x.canvasSize(0, 3, 1);
        x.canvasRow(0, 0, 0, 0x646464c8c8c8c8c8L);
        x.paintFrom(3, 1, 1, 0, 1);
        Check.due("flat", x.aboutPicture(4), 1);
    }

    private static void rowsThatAreNot() {
        Check.sentence("false if (x, y) is none.");
        Subject x = new Subject();
        for (int p = 0; p < 4; p++) {
            Canvas.put(x, p, Canvas.flat(11, 2, 40 + p));
        }
        int[][] none = {{-1, 0}, {-7, 0}, {-8, 0}, {11, 0}, {12, 0}, {32, 0}, {0, -1}, {0, 2}, {0, 32}, {11, 2}, {-1, -1},
            {10, 2}, {Integer.MAX_VALUE, 0}, {Integer.MIN_VALUE, 0}, {0, Integer.MAX_VALUE}, {0, Integer.MIN_VALUE}};
        for (int p = 0; p < 4; p++) {
            for (int[] w : none) {
                Check.due("canvasRow(" + p + ", " + w[0] + ", " + w[1] + ")", x.canvasRow(p, w[0], w[1], -1L), false);
            }
            Check.due("the last one is there", x.canvasRow(p, 10, 1, (long) (40 + p) << 56), true);
        }
        for (int plane : new int[] {-1, 4, 5, Integer.MAX_VALUE, Integer.MIN_VALUE}) {
            Check.due("plane " + plane, x.canvasRow(plane, 0, 0, -1L), false);
        }
        for (int p = 0; p < 4; p++) {
            Canvas.due("nothing changed", x, p, Canvas.flat(11, 2, 40 + p));
        }
    }

    private static void eights() {
        Check.sentence("Samples (x, y) .. (x + 7, y) as the bytes of a long, the first one highest, 0 where there is none");
        Subject x = new Subject();
        x.canvasSize(0, 11, 2);
        x.canvasRow(0, 0, 0, 0x8182838485868788L);
        x.canvasRow(0, 8, 0, 0x898a8b0000000000L);
        x.canvasRow(0, 0, 1, -1);
        x.canvasRow(0, 8, 1, -1);
        long[] want = {0x8182838485868788L, 0x8283848586878889L, 0x838485868788898aL, 0x8485868788898a8bL,
            0x85868788898a8b00L, 0x868788898a8b0000L, 0x8788898a8b000000L, 0x88898a8b00000000L, 0x898a8b0000000000L,
            0x8a8b000000000000L, 0x8b00000000000000L, 0, 0};
        for (int left = 0; left < want.length; left++) {
            Check.due("from " + left, x.canvasEight(0, left, 0), want[left]);
        }
        Check.due("one sample", new Subject().canvasEight(3, 0, 0), 0);
        x.canvasSize(3, 1, 1);
        x.canvasRow(3, 0, 0, -1);
        Check.due("one sample", x.canvasEight(3, 0, 0), 0xff00000000000000L);
        x.canvasSize(3, 32, 32);
        x.canvasRow(3, 24, 31, -2);
        Check.due("the last eight", x.canvasEight(3, 24, 31), -2);
        Check.due("the last one", x.canvasEight(3, 31, 31), 0xfe00000000000000L);
        Check.due("the one before it", x.canvasEight(3, 30, 31), 0xfffe000000000000L);
    }

    private static void eightsBelowZero() {
        Check.sentence("(x may be below 0: the samples from 0 on have their bytes all the same).");
        Subject x = new Subject();
        x.canvasSize(1, 11, 1);
        x.canvasRow(1, 0, 0, 0x8182838485868788L);
        for (int left = -1; left > -10; left--) {
            Check.due("from " + left, x.canvasEight(1, left, 0), left > -8 ? 0x8182838485868788L >>> -8 * left : 0);
        }
        x.canvasSize(1, 2, 1);
        x.canvasRow(1, 0, 0, 0x8182000000000000L);
        Check.due("two from -1", x.canvasEight(1, -1, 0), 0x0081820000000000L);
        Check.due("two from -3", x.canvasEight(1, -3, 0), 0x0000008182000000L);
        Check.due("two from -6", x.canvasEight(1, -6, 0), 0x8182L);
        Check.due("two from -7", x.canvasEight(1, -7, 0), 0x81L);
        for (int left : new int[] {-8, -9, -16, -256, Integer.MIN_VALUE, Integer.MIN_VALUE + 7}) {
            Check.due("from " + left, x.canvasEight(1, left, 0), 0);
        }
    }

    private static void eightsThatAreNot() {
        Check.sentence("0 where there is none");
        Subject x = new Subject();
        for (int p = 0; p < 4; p++) {
            Canvas.put(x, p, Canvas.flat(4, 3, 255));
        }
        int[][] none = {{-1, 0, 0}, {4, 0, 0}, {Integer.MAX_VALUE, 0, 0}, {Integer.MIN_VALUE, 0, 0}, {0, 4, 0}, {0, 5, 0},
            {0, 32, 0}, {0, Integer.MAX_VALUE, 0}, {0, Integer.MAX_VALUE - 7, 0}, {0, 0, -1}, {0, 0, 3}, {0, 0, 32},
            {0, 0, Integer.MAX_VALUE}, {0, 0, Integer.MIN_VALUE}, {3, -4, 3}, {3, -4, -1}};
        for (int[] w : none) {
            Check.due("canvasEight(" + w[0] + ", " + w[1] + ", " + w[2] + ")", x.canvasEight(w[0], w[1], w[2]), 0);
        }
        Check.due("the last one", x.canvasEight(3, 3, 2), 0xff00000000000000L);
    }

    private static int[] mix(int which, int... given) {
        Subject x = new Subject();
        int[] now = new int[4];
        for (int p = 0; p < 4; p++) {
            x.canvasSize(p, 2, 3);
            x.canvasRow(p, 1, 2, (long) given[p] << 56);
        }
        Check.due("mixCanvas(" + which + ")", x.mixCanvas(which), true);
        for (int p = 0; p < 4; p++) {
            now[p] = (int) x.canvasEight(p, -6, 2) & 255;
        }
        return now;
    }

    private static void due(int which, int a, int b, int c, int d, int... want) {
        int[] got = mix(which, a, b, c, d);
        for (int p = 0; p < 3; p++) {
            Check.due("mix " + which + " of " + a + ", " + b + ", " + c + ", " + d + ", plane " + p, got[p], want[p]);
        }
        Check.due("plane 3 stays", got[3], d);
    }

    private static void openMix() {
        Check.sentence("0, OPEN: with p = b - 128, q = c - 128: LIMIT(a + SHIFTED(91881 * q + 32768, 16));");
        due(0, 100, 128, 128, 9, 100, 100, 100);
        // q = 72: 91881 * 72 = 6615432, + 32768 by 65536 is 101.4; p = -28: 631512 - 3369744 + 32768 is -41.3 of them.
        due(0, 100, 100, 200, 9, 201, 58, 50);
        Check.sentence("LIMIT(a + SHIFTED(-22554 * p - 46802 * q + 32768, 16)); LIMIT(a + SHIFTED(116130 * p + 32768, 16)).");
        // One step: 91881 + 32768 by 65536 is 1, -22554 + 32768 is 0, 116130 + 32768 is 2.
        due(0, 100, 129, 128, 9, 100, 100, 102);
        due(0, 100, 127, 128, 9, 100, 100, 98);
        due(0, 100, 128, 129, 9, 101, 99, 100);
        due(0, 100, 128, 127, 9, 99, 101, 100);
        // Just at the edge of rounding: 22553 or 46803 or 116129 would be another sample.
        due(0, 100, 2, 83, 9, 37, 175, 0);
        due(0, 100, 2, 97, 9, 57, 166, 0);
        due(0, 100, 2, 90, 9, 47, 170, 0);
        due(0, 100, 12, 179, 9, 172, 103, 0);
        due(0, 255, 3, 128, 9, 255, 255, 33);
        Check.sentence("LIMIT(v) is v, but 0 if it is below 0, 255 if it is above 255.");
        due(0, 200, 255, 255, 9, 255, 66, 255);
        due(0, 10, 0, 0, 9, 0, 145, 0);
        due(0, 255, 0, 0, 9, 76, 255, 28);
        due(0, 0, 255, 255, 9, 178, 0, 225);
        due(0, 255, 128, 128, 9, 255, 255, 255);
        due(0, 255, 129, 128, 9, 255, 255, 255);
        due(0, 0, 127, 127, 9, 0, 1, 0);
    }

    private static void closeMix() {
        Check.sentence("1, CLOSE: SHIFTED(19595 * a + 38470 * b + 7471 * c + 32768, 16); "
            + "SHIFTED(-11059 * a - 21709 * b + 32768 * c + 8421375, 16); "
            + "SHIFTED(32768 * a - 27439 * b - 5329 * c + 8421375, 16).");
        due(1, 255, 255, 255, 0, 255, 128, 128);
        due(1, 0, 0, 0, 0, 0, 128, 128);
        due(1, 255, 0, 0, 0, 76, 85, 255);
        due(1, 0, 255, 0, 0, 150, 44, 21);
        due(1, 0, 0, 255, 0, 29, 255, 107);
        due(1, 255, 255, 0, 0, 226, 0, 149);
        due(1, 0, 255, 255, 0, 179, 171, 0);
        due(1, 255, 0, 255, 0, 105, 212, 235);
        // Just at the edge of rounding: each number one more or one less would be another sample.
        int[][] edges = {{199, 0, 0, 0, 60}, {187, 1, 0, 0, 56}, {252, 19, 0, 0, 87}, {57, 11, 0, 0, 23}, {185, 133, 1, 0, 134},
            {140, 98, 1, 0, 99}, {184, 132, 0, 0, 133}, {139, 97, 0, 0, 98}, {80, 0, 0, 1, 115}, {1, 1, 0, 1, 127},
            {96, 16, 0, 1, 107}, {80, 0, 16, 1, 123}, {0, 0, 1, 1, 128}, {108, 123, 0, 2, 131}, {1, 0, 0, 2, 128},
            {0, 123, 0, 2, 77}, {0, 166, 0, 2, 58}, {1, 230, 107, 2, 24}, {0, 1, 1, 2, 127}};
        for (int[] w : edges) {
            Check.due("close " + w[0] + ", " + w[1] + ", " + w[2] + ", plane " + w[3], mix(1, w[0], w[1], w[2], 0)[w[3]], w[4]);
            if (w[3] == 0) {
                Check.due("grey " + w[0] + ", " + w[1] + ", " + w[2], mix(4, w[0], w[1], w[2], 0)[0], w[4]);
            }
        }
        due(1, 1, 0, 0, 0, 0, 128, 128);
        due(1, 0, 0, 1, 0, 0, 128, 128);
    }

    private static void invertMix() {
        Check.sentence("2, INVERT: 255 - a, 255 - b, 255 - c.");
        due(2, 0, 255, 100, 7, 255, 0, 155);
        due(2, 127, 128, 1, 7, 128, 127, 254);
    }

    private static void darkenMix() {
        Check.sentence("3, DARKEN: (a * (255 - d) + 127) / 255, likewise b, c (rounded down; plane 3 has this size, too).");
        due(3, 255, 100, 1, 0, 255, 100, 1);
        due(3, 255, 100, 1, 255, 0, 0, 0);
        // 255 - d = 127: 100 * 127 = 12700, + 127 by 255 is 50.3; 127 + 127 by 255 is 0.99
        due(3, 255, 100, 1, 128, 127, 50, 0);
        due(3, 255, 100, 1, 127, 128, 50, 1);
        due(3, 0, 254, 2, 1, 0, 253, 2);
        due(3, 255, 128, 127, 254, 1, 1, 0);
    }

    private static void greyMix() {
        Check.sentence("4, GREY: all three become SHIFTED(19595 * a + 38470 * b + 7471 * c + 32768, 16).");
        due(4, 255, 0, 0, 3, 76, 76, 76);
        due(4, 0, 255, 0, 3, 150, 150, 150);
        due(4, 0, 0, 255, 3, 29, 29, 29);
        due(4, 1, 2, 3, 3, 2, 2, 2);
        due(4, 255, 255, 255, 3, 255, 255, 255);
    }

    private static void doubleMixes() {
        Check.sentence("5, OPEN and then INVERT; 6, INVERT and then CLOSE.");
        due(5, 100, 100, 200, 9, 54, 197, 205);
        due(5, 10, 0, 0, 9, 255, 110, 255);
        due(6, 255, 0, 255, 0, 150, 44, 21);
        due(6, 0, 0, 0, 0, 255, 128, 128);
        due(6, 0, 255, 255, 0, 76, 85, 255);
    }

    private static void allPlaces() {
        Check.sentence("MIXES change the samples of planes 0 to 2, place by place;");
        int[][] sizes = {{1, 1}, {32, 32}, {32, 1}, {1, 32}, {9, 5}};
        for (int[] size : sizes) {
            Subject x = new Subject();
            for (int p = 0; p < 3; p++) {
                x.canvasSize(p, size[0], size[1]);
            }
            Check.due("invert", x.mixCanvas(2), true);
            for (int p = 0; p < 3; p++) {
                Canvas.due("inverted", x, p, Canvas.flat(size[0], size[1], 255));
            }
            Canvas.due("plane 3", x, 3, new int[][] {{0}});
        }
    }

    private static void mixesThatAreNone() {
        Check.sentence("A MIX 0 .. 6: true; false if there is none such,");
        Subject x = new Subject();
        for (int which : new int[] {-1, -2, 7, 8, 256, Integer.MAX_VALUE, Integer.MIN_VALUE}) {
            Check.due("mix " + which, x.mixCanvas(which), false);
        }
        for (int p = 0; p < 4; p++) {
            Canvas.due("nothing changed", x, p, new int[][] {{0}});
        }
        for (int which = 0; which < 7; which++) {
            Check.due("mix " + which, x.mixCanvas(which), true);
        }
    }

    private static void planesOfOtherSizes() {
        Check.sentence("or planes 0 to 2 (for 3: all) are not of one size.");
        int[][] others = {{3, 2}, {1, 2}, {2, 3}, {2, 1}, {1, 1}, {32, 32}};
        for (int plane = 0; plane < 4; plane++) {
            for (int[] other : others) {
                Subject x = new Subject();
                for (int p = 0; p < 4; p++) {
                    Canvas.put(x, p, p == plane ? Canvas.flat(other[0], other[1], 9) : Canvas.flat(2, 2, 9));
                }
                for (int which = 0; which < 7; which++) {
                    if (plane < 3 || which == 3) {
                        Check.due("mix " + which + ", plane " + plane + " is another", x.mixCanvas(which), false);
                    }
                }
                for (int p = 0; p < 4; p++) {
                    Canvas.due("nothing changed", x, p, p == plane ? Canvas.flat(other[0], other[1], 9) : Canvas.flat(2, 2, 9));
                }
                if (plane == 3) {
                    for (int which = 0; which < 7; which++) {
                        Check.due("mix " + which + " does without plane 3", x.mixCanvas(which), which != 3);
                    }
                }
            }
        }
        // W by H is not H by W.
        Subject x = new Subject();
        x.canvasSize(0, 2, 3);
        x.canvasSize(1, 3, 2);
        x.canvasSize(2, 2, 3);
        Check.due("turned", x.mixCanvas(2), false);
    }

    /** All b and c of OPEN, by canvases of 1024 places, with an a that hides nothing of planes 0 and 2. */
    private static void allOfOpen() {
        Check.sentence("0, OPEN: with p = b - 128, q = c - 128: LIMIT(a + SHIFTED(91881 * q + 32768, 16));");
        for (int part = 0; part < 64; part++) {
            Subject x = new Subject();
            int[][][] given = new int[3][32][32];
            int[][][] want = new int[3][32][32];
            for (int at = 0; at < 1024; at++) {
                int b = part * 4 + at / 256;
                int c = at % 256;
                int a = part % 3 == 0 ? 0 : part % 3 == 1 ? 255 : 128;
                given[0][at / 32][at % 32] = a;
                given[1][at / 32][at % 32] = b;
                given[2][at / 32][at % 32] = c;
                int p = b - 128;
                int q = c - 128;
                want[0][at / 32][at % 32] = limit(a + Math.floorDiv(91881 * q + 32768, 65536));
                want[1][at / 32][at % 32] = limit(a + Math.floorDiv(-22554 * p - 46802 * q + 32768, 65536));
                want[2][at / 32][at % 32] = limit(a + Math.floorDiv(116130 * p + 32768, 65536));
            }
            for (int p = 0; p < 3; p++) {
                Canvas.put(x, p, given[p]);
            }
            Check.due("open", x.mixCanvas(0), true);
            for (int p = 0; p < 3; p++) {
                Canvas.due("part " + part, x, p, want[p]);
            }
        }
    }

    private static int limit(int v) {
        return v < 0 ? 0 : v > 255 ? 255 : v;
    }

    private static void mixesByChance() {
        Check.sentence("a, b, c, d are the old samples of planes 0 .. 3:");
        for (int which = 0; which < 7; which++) {
            Pair pair = new Pair("mix " + which);
            Random random = new Random(which);
            for (int p = 0; p < 4; p++) {
                pair.canvasSize(p, 32, 16);
                for (int y = 0; y < 16; y++) {
                    for (int left = 0; left < 32; left += 8) {
                        pair.canvasRow(p, left, y, random.nextLong());
                    }
                }
            }
            pair.mixCanvas(which);
            pair.compareCanvas();
        }
    }
}
