import java.util.Random;

/** Promises 7 and 13: samples of the canvas become a picture. */
public final class PaintTest {
    public static void main(String[] args) {
        sizesThatAreNot();
        componentsAndShapes();
        planesOfOtherSizes();
        percents();
        steps();
        flatBlocks();
        halves();
        bounds();
        waves();
        widened();
        shrunkAcross();
        shrunkDown();
        shrunkBoth();
        shrunkOdd();
        planesStay();
        onlyWhereItIsLess();
        Check.end();
    }

    private static void refused(Subject x, int w, int h, int many, int shape, int percent) {
        String call = "paintFrom(" + w + ", " + h + ", " + many + ", " + shape + ", " + percent + ")";
        Check.due(call, x.paintFrom(w, h, many, shape, percent), false);
    }

    private static void sizesThatAreNot() {
        Check.sentence("A PICTURE of the CANVAS: w by h, 1 .. 32 each, with so many components, 1 .. 4;");
        Subject x = new Subject();
        for (int wrong : new int[] {0, -1, 33, 34, 64, 256 + 1, Integer.MAX_VALUE, Integer.MIN_VALUE}) {
            refused(x, wrong, 1, 1, 0, 100);
            refused(x, 1, wrong, 1, 0, 100);
            refused(x, wrong, wrong, 1, 0, 100);
        }
        Check.due("no picture", x.aboutPicture(0), -1);
        Check.sentence("there are more than 192 blocks,");
        // 32 by 32 has at most 64 blocks, so that no picture of the canvas has too many.
        Subject most = new Subject();
        for (int p = 0; p < 4; p++) {
            most.canvasSize(p, 32, 32);
        }
        for (int shape : new int[] {0x00, 0xff}) {
            Check.due("the most blocks", most.paintFrom(32, 32, 4, shape, 100), true);
            Check.due("blocks", most.aboutPicture(3), 64);
        }
        Check.sentence("A PICTURE of the CANVAS: w by h, 1 .. 32 each, with so many components, 1 .. 4;");
        int[][] sizes = {{1, 1}, {32, 1}, {1, 32}, {32, 32}, {31, 2}};
        for (int[] size : sizes) {
            x.canvasSize(0, size[0], size[1]);
            Check.due("paint", x.paintFrom(size[0], size[1], 1, 0, 100), true);
            Check.due("width", x.aboutPicture(0), size[0]);
            Check.due("height", x.aboutPicture(1), size[1]);
            Check.due("blocks", x.aboutPicture(3), (size[0] + 7) / 8 * ((size[1] + 7) / 8));
        }
    }

    private static void componentsAndShapes() {
        Check.sentence("bit 2 * c of shape is H - 1 of component c, bit 2 * c + 1 V - 1.");
        Subject x = new Subject();
        for (int many : new int[] {0, -1, 5, 6, 32, Integer.MAX_VALUE, Integer.MIN_VALUE}) {
            refused(x, 1, 1, many, 0, 100);
        }
        for (int many = 1; many <= 4; many++) {
            for (int shape = 0; shape < 1 << 2 * many; shape += many < 4 ? 1 : 7) {
                Subject y = new Subject();
                Check.due("paint", y.paintFrom(1, 1, many, shape, 100), true);
                Check.due("components", y.aboutPicture(2), many);
                for (int c = 0; c < many; c++) {
                    int h = 1 + (shape >> 2 * c & 1);
                    int v = 1 + (shape >> 2 * c + 1 & 1);
                    Check.due("H of " + c + " by " + shape, y.aboutPicture(8 + 4 * c), h);
                    Check.due("V of " + c + " by " + shape, y.aboutPicture(9 + 4 * c), v);
                    Check.due("across", y.aboutPicture(10 + 4 * c), h);
                    Check.due("down", y.aboutPicture(11 + 4 * c), v);
                }
            }
        }
        Check.sentence("or shape has other bits than those of its components.");
        for (int many = 1; many <= 4; many++) {
            for (int bit = 2 * many; bit < 32; bit++) {
                refused(x, 1, 1, many, 1 << bit, 100);
                refused(x, 1, 1, many, 1 << bit | 3, 100);
            }
            refused(x, 1, 1, many, -1, 100);
            Check.due("all its bits", new Subject().paintFrom(1, 1, many, (1 << 2 * many) - 1, 100), true);
        }
        Check.due("no picture", x.aboutPicture(0), -1);
    }

    private static void planesOfOtherSizes() {
        Check.sentence("one of the planes 0 .. many - 1 is not w by h,");
        int[][] others = {{4, 3}, {2, 3}, {3, 4}, {3, 2}, {1, 1}};
        for (int many = 1; many <= 4; many++) {
            for (int plane = 0; plane < 4; plane++) {
                for (int[] other : others) {
                    Subject x = new Subject();
                    for (int p = 0; p < 4; p++) {
                        x.canvasSize(p, p == plane ? other[0] : 3, p == plane ? other[1] : 3);
                    }
                    Check.due("plane " + plane + " of " + many, x.paintFrom(3, 3, many, 0, 100), plane >= many);
                }
            }
        }
        Subject x = new Subject();
        x.canvasSize(0, 3, 5);
        refused(x, 5, 3, 1, 0, 100);
        Check.due("w by h", x.paintFrom(3, 5, 1, 0, 100), true);
    }

    private static void percents() {
        Check.sentence("percent is 1 .. 5000.");
        Subject x = new Subject();
        for (int wrong : new int[] {0, -1, -100, 5001, 10000, Integer.MAX_VALUE, Integer.MIN_VALUE}) {
            refused(x, 1, 1, 1, 0, wrong);
        }
        Check.due("no picture", x.aboutPicture(0), -1);
        for (int percent : new int[] {1, 2, 100, 4999, 5000}) {
            Check.due("percent " + percent, x.paintFrom(1, 1, 1, 0, percent), true);
        }
    }

    private static void steps() {
        Check.sentence("STEPS of place (v, u): (base + slope * (u + v)) * percent + 50, by 100 (rounded down), "
            + "but at least 1 and at most 255; base and slope are 16 and 6 for component 0, 17 and 10 for others;");
        // Of place (0, 0) of component 0, whose base is 16, and of component 1, whose base is 17.
        int[][] edges = {{1, 1, 1}, {3, 1, 1}, {4, 1, 1}, {8, 1, 1}, {9, 1, 2}, {10, 2, 2}, {15, 2, 3}, {50, 8, 9},
            {100, 16, 17}, {1496, 239, 254}, {1497, 240, 254}, {1498, 240, 255}, {1590, 254, 255}, {1591, 255, 255},
            {1596, 255, 255}, {1597, 255, 255}, {5000, 255, 255}};
        for (int[] edge : edges) {
            Subject x = new Subject();
            x.paintFrom(1, 1, 2, 0, edge[0]);
            Check.due(edge[0] + " percent", x.stepAt(0, 0), edge[1]);
            Check.due(edge[0] + " percent of others", x.stepAt(1, 0), edge[2]);
        }
        Subject x = new Subject();
        x.paintFrom(1, 1, 4, 0, 50);
        // Half of 16, 22, 28 and of 17, 27, 37, a half up.
        int[] first = {8, 11, 11, 14, 14, 14, 17, 17, 17, 17, 20};
        int[] second = {9, 14, 14, 19, 19, 19, 24, 24, 24, 24, 29};
        for (int k = 0; k < first.length; k++) {
            Check.due("step " + k, x.stepAt(0, k), first[k]);
            for (int c = 1; c < 4; c++) {
                Check.due("step " + k + " of " + c, x.stepAt(c, k), second[k]);
            }
        }
        Check.due("last step", x.stepAt(0, 63), 50);
        Check.due("last step", x.stepAt(3, 63), 79);
        Subject y = new Subject();
        y.paintFrom(1, 1, 2, 0, 100);
        for (int k = 0; k < 64; k++) {
            int sum = Model.PLACES[k][0] + Model.PLACES[k][1];
            Check.due("step " + k, y.stepAt(0, k), 16 + 6 * sum);
            Check.due("step " + k, y.stepAt(1, k), 17 + 10 * sum);
        }
    }

    private static void flatBlocks() {
        Check.sentence("each block FORWARD.");
        for (int sample = 0; sample < 256; sample += 3) {
            Subject x = new Subject();
            Canvas.put(x, 0, Canvas.flat(9, 8, sample));
            x.paintFrom(9, 8, 1, 0, 1);
            // All others are 0, as are the waves' sums.
            Check.due("blocks", x.aboutPicture(3), 2);
            Check.due("only direct ones", x.aboutPicture(4), sample == 128 ? 0 : 2);
            Check.due("eight times as much", x.coefficientAt(0, 0, 0, 0), 8 * (sample - 128));
            Check.due("eight times as much", x.coefficientAt(0, 1, 0, 0), 8 * (sample - 128));
        }
    }

    private static void halves() {
        Check.sentence("the coefficient is E / STEP, rounded to the nearest (a half away from 0),");
        // With the step 16: 8 by 16 is a half.
        int[][] cases = {{128, 0}, {129, 1}, {127, -1}, {130, 1}, {126, -1}, {131, 2}, {125, -2}, {133, 3}, {123, -3},
            {255, 64}, {0, -64}};
        for (int[] w : cases) {
            Subject x = new Subject();
            Canvas.put(x, 0, Canvas.flat(8, 8, w[0]));
            x.paintFrom(8, 8, 1, 0, 100);
            Check.due("sample " + w[0], x.coefficientAt(0, 0, 0, 0), w[1]);
        }
        // With the step 17: 24 by 17 is 1.4, 32 by 17 is 1.9; less than a half goes to 0.
        int[][] others = {{129, 0}, {127, 0}, {130, 1}, {126, -1}, {131, 1}, {125, -1}, {132, 2}, {124, -2}};
        for (int[] w : others) {
            Subject x = new Subject();
            for (int p = 0; p < 2; p++) {
                Canvas.put(x, p, Canvas.flat(8, 8, w[0]));
            }
            x.paintFrom(8, 8, 2, 0, 100);
            Check.due("sample " + w[0], x.coefficientAt(1, 0, 0, 0), w[1]);
        }
    }

    private static void bounds() {
        Check.sentence("but at least -1023 (-1024 for (0, 0)) and at most 1023.");
        Subject x = new Subject();
        Canvas.put(x, 0, Canvas.flat(8, 8, 0));
        x.paintFrom(8, 8, 1, 0, 1);
        Check.due("the lowest direct one", x.coefficientAt(0, 0, 0, 0), -1024);
        Canvas.put(x, 0, Canvas.flat(8, 8, 255));
        x.paintFrom(8, 8, 1, 0, 1);
        Check.due("the highest direct one", x.coefficientAt(0, 0, 0, 0), 1016);
        // The strongest of the others: the wave that goes across twice, or down, as 0 and 255.
        int[] signs = {1, 0, 0, 1, 1, 0, 0, 1};
        int[][] rows = new int[8][8];
        for (int y = 0; y < 8; y++) {
            for (int left = 0; left < 8; left++) {
                rows[y][left] = 255 * signs[left];
            }
        }
        Subject y = new Subject();
        Canvas.put(y, 0, rows);
        y.paintFrom(8, 8, 1, 0, 1);
        int across = y.coefficientAt(0, 0, 0, Model.placeNumber(0, 4));
        Check.due("the strongest other one", across, Model.forward(rows, ones())[Model.placeNumber(0, 4)]);
        Check.due("it is strong", across > 1010, true);
    }

    private static int[] ones() {
        int[] steps = new int[64];
        java.util.Arrays.fill(steps, 1);
        return steps;
    }

    private static void waves() {
        Check.sentence("P(v, x) = ROUND(sum over y of WAVE(8, v, y) * T(y, x), 11);");
        for (int round = 0; round < 40; round++) {
            Random random = new Random(round);
            int[][] rows = new int[8][8];
            for (int[] row : rows) {
                for (int left = 0; left < 8; left++) {
                    row[left] = round % 2 == 0 ? random.nextInt(256) : 255 * random.nextInt(2);
                }
            }
            Subject x = new Subject();
            Canvas.put(x, 0, rows);
            int percent = round < 20 ? 1 : 1 + random.nextInt(200);
            x.paintFrom(8, 8, 1, 0, percent);
            int[] steps = new int[64];
            for (int k = 0; k < 64; k++) {
                steps[k] = x.stepAt(0, k);
            }
            int[] want = Model.forward(rows, steps);
            for (int k = 0; k < 64; k++) {
                Check.due("coefficient " + k, x.coefficientAt(0, 0, 0, k), want[k]);
            }
        }
    }

    private static void widened() {
        Check.sentence("widened to all its blocks by taking the last samples of rows, and the last row, again;");
        int[][] rows = Canvas.flat(9, 9, 60);
        for (int k = 0; k < 8; k++) {
            rows[k][8] = 77;
            rows[8][k] = 33;
        }
        rows[8][8] = 200;
        Subject x = new Subject();
        Canvas.put(x, 0, rows);
        x.paintFrom(9, 9, 1, 0, 1);
        int[][] want = {{60, 77}, {33, 200}};
        for (int by = 0; by < 2; by++) {
            for (int bx = 0; bx < 2; bx++) {
                Check.due("block " + bx + ", " + by, x.coefficientAt(0, bx, by, 0), 8 * (want[by][bx] - 128));
            }
        }
        Check.due("all are flat", x.aboutPicture(4), 4);
        // All blocks, not only its own: one sample makes four flat ones.
        Subject y = new Subject();
        Canvas.put(y, 0, new int[][] {{100}});
        y.paintFrom(1, 1, 1, 3, 1);
        for (int block = 0; block < 4; block++) {
            Check.due("block " + block, y.coefficientAt(0, block % 2, block / 2, 0), 8 * (100 - 128));
        }
        Check.due("all are flat", y.aboutPicture(4), 4);
        // 17 by 8 in units of 16 by 16: the last column goes on for fifteen more, the last row for eight.
        int[][] wide = Canvas.flat(17, 8, 90);
        for (int k = 0; k < 8; k++) {
            wide[k][16] = 20;
        }
        Subject z = new Subject();
        Canvas.put(z, 0, wide);
        z.paintFrom(17, 8, 1, 3, 1);
        for (int block = 0; block < 8; block++) {
            Check.due("block " + block, z.coefficientAt(0, block % 4, block / 4, 0), 8 * ((block % 4 < 2 ? 90 : 20) - 128));
        }
        Check.due("all are flat", z.aboutPicture(4), 8);
    }

    /** Paints component 1 shrunk by this shape beside component 0 of 2 by 2; it must be flat, of that sample. */
    private static void flatWhenShrunk(String what, int shape, int sample, int[][] rows) {
        Subject x = new Subject();
        Canvas.put(x, 0, Canvas.flat(rows[0].length, rows.length, 128));
        Canvas.put(x, 1, rows);
        Check.due("paint", x.paintFrom(rows[0].length, rows.length, 2, 3 | shape << 2, 1), true);
        int blocks = x.aboutPicture(14) * x.aboutPicture(15);
        Check.due(what + ": flat", x.aboutPicture(4), sample == 128 ? 0 : blocks);
        Check.due(what + ": its sample", x.coefficientAt(1, 0, 0, 0), 8 * (sample - 128));
    }

    private static int[][] row(int... samples) {
        return new int[][] {samples};
    }

    private static int[][] column(int... samples) {
        int[][] rows = new int[samples.length][1];
        for (int y = 0; y < samples.length; y++) {
            rows[y][0] = samples[y];
        }
        return rows;
    }

    private static void shrunkAcross() {
        Check.sentence("To SHRINK ACROSS: W is half as much, rounded up; the new (x, y) is SHIFTED(the old (2 * x, y) + "
            + "the old (2 * x + 1, y) + x modulo 2, 1).");
        // Of V 2, H 1: 201 by 2 is 100 at x = 0, 199 + 1 by 2 is 100 at x = 1.
        flatWhenShrunk("a half down, then up", 2, 100, row(100, 101, 99, 100));
        flatWhenShrunk("again", 2, 100, row(101, 100, 100, 99, 100, 101, 99, 100));
        flatWhenShrunk("whole ones", 2, 100, row(99, 101, 101, 99));
        flatWhenShrunk("whole ones, and one more", 2, 100, row(100, 100, 100, 100, 101, 100, 100, 100));
        flatWhenShrunk("at most", 2, 255, row(255, 255, 255, 255, 255, 255));
    }

    private static void shrunkDown() {
        Check.sentence("DOWN: likewise, + y modulo 2.");
        flatWhenShrunk("a half down, then up", 1, 100, column(100, 101, 99, 100));
        flatWhenShrunk("again", 1, 100, column(101, 100, 100, 99, 100, 101, 99, 100));
        flatWhenShrunk("whole ones", 1, 100, column(99, 101, 101, 99));
        // It is y that counts here, not x.
        flatWhenShrunk("two columns", 1, 100, new int[][] {{100, 101}, {101, 100}, {99, 100}, {100, 99}});
        flatWhenShrunk("two rows across", 2, 100, new int[][] {{100, 101, 99, 100}, {101, 100, 100, 99}});
    }

    private static void shrunkBoth() {
        Check.sentence("BOTH: W and H are half as much, rounded up; the new (x, y) is SHIFTED(the four old ones (2 * x, 2 * y), "
            + "(2 * x + 1, 2 * y), (2 * x, 2 * y + 1), (2 * x + 1, 2 * y + 1) + 1 + x modulo 2, 2).");
        // At x = 0: 403 and 406, + 1, by 4 are 101; at x = 1: 402 and 405, + 2.
        flatWhenShrunk("least", 0, 101, new int[][] {{100, 101, 101, 100}, {101, 101, 100, 101}});
        flatWhenShrunk("most", 0, 101, new int[][] {{101, 102, 101, 101}, {101, 102, 102, 101}});
        flatWhenShrunk("least, two rows", 0, 101,
            new int[][] {{100, 101, 101, 100}, {101, 101, 100, 101}, {101, 100, 100, 101}, {101, 101, 101, 100}});
        flatWhenShrunk("most, two rows", 0, 101,
            new int[][] {{101, 102, 101, 101}, {101, 102, 102, 101}, {102, 101, 101, 102}, {102, 101, 101, 101}});
        flatWhenShrunk("at most", 0, 255, Canvas.flat(4, 4, 255));
        flatWhenShrunk("at least", 0, 0, Canvas.flat(4, 4, 0));
    }

    private static void shrunkOdd() {
        Check.sentence("Where there is no old one beside or below, that of the last x or y is taken again.");
        flatWhenShrunk("one across", 2, 100, row(100));
        flatWhenShrunk("three across", 2, 100, row(100, 101, 100));
        flatWhenShrunk("five across", 2, 100, row(100, 101, 99, 100, 100));
        flatWhenShrunk("one down", 1, 100, column(100));
        flatWhenShrunk("three down", 1, 100, column(100, 101, 100));
        flatWhenShrunk("one by one", 0, 100, row(100));
        flatWhenShrunk("three by three", 0, 101, new int[][] {{100, 101, 101}, {101, 101, 101}, {101, 101, 101}});
        // At the corner one old sample is taken four times: 405 + 2 by 4 is not more than it.
        flatWhenShrunk("three by one", 0, 101, row(101, 101, 101));
        flatWhenShrunk("one by three", 0, 101, column(101, 101, 101));
        for (int w = 1; w <= 9; w++) {
            for (int h = 1; h <= 9; h += 2) {
                Pair pair = new Pair("shrunk " + w + " by " + h);
                Random random = new Random(100 * w + h);
                for (int p = 0; p < 4; p++) {
                    pair.canvasSize(p, w, h);
                    for (int y = 0; y < h; y++) {
                        pair.canvasRow(p, 0, y, random.nextLong());
                        if (w > 8) {
                            pair.canvasRow(p, 8, y, random.nextLong());
                        }
                    }
                }
                // Of 2 by 2, 1 by 1, 1 by 2 and 2 by 1.
                pair.paintFrom(w, h, 4, 0x03 | 0x02 << 4 | 0x01 << 6, 1);
                pair.comparePicture();
            }
        }
    }

    private static void planesStay() {
        Check.sentence("Component c is plane c (which stays): SHRUNK ACROSS, DOWN or BOTH if its H, its V or both are less than HM, VM;");
        Subject x = new Subject();
        int[][][] planes = new int[4][][];
        for (int p = 0; p < 4; p++) {
            planes[p] = Canvas.flat(11, 5, 20 + 50 * p);
            planes[p][3][10] = 3 + p;
            Canvas.put(x, p, planes[p]);
        }
        for (int shape : new int[] {0x00, 0x03, 0x1b, 0xff}) {
            Check.due("paint", x.paintFrom(11, 5, 4, shape, 10), true);
            for (int p = 0; p < 4; p++) {
                Canvas.due("it stays", x, p, planes[p]);
            }
        }
        // Not shrunk if none has more: HM and VM are the greatest that there are.
        Subject y = new Subject();
        Canvas.put(y, 0, row(10, 20));
        y.paintFrom(2, 1, 1, 0, 1);
        int direct = y.coefficientAt(0, 0, 0, 0);
        Check.due("not shrunk", y.aboutPicture(4) > 1, true);
        y.paintFrom(2, 1, 1, 3, 1);
        Check.due("not shrunk, of 2 by 2 alone", y.coefficientAt(0, 0, 0, 0), direct);
        Canvas.put(y, 1, row(10, 20));
        y.paintFrom(2, 1, 2, 0x04, 1);
        Check.due("shrunk beside H 2", y.coefficientAt(0, 0, 0, 0), 8 * (15 - 128));
        Check.due("not shrunk itself", y.coefficientAt(1, 0, 0, 0) != 8 * (15 - 128), true);
    }

    private static void onlyWhereItIsLess() {
        Check.sentence("SHRUNK ACROSS, DOWN or BOTH if its H, its V or both are less than HM, VM;");
        // Beside H 2, V 1 it is shrunk across alone: two rows of 100 and 50 stay two rows; and the other way round.
        int[][] rows = {{100, 101}, {50, 51}};
        int[][] across = {{100}, {50}};
        int[][] down = {{75, 76}};
        int[][] both = {{75}};
        int[][][] want = {across, down, both, rows};
        int[] shapes = {1, 2, 3, 0};
        for (int k = 0; k < 4; k++) {
            Subject x = new Subject();
            Canvas.put(x, 0, rows);
            Canvas.put(x, 1, rows);
            x.paintFrom(2, 2, 2, shapes[k], 1);
            int[][] eight = new int[8][8];
            for (int y = 0; y < 8; y++) {
                for (int left = 0; left < 8; left++) {
                    int[] row = want[k][Math.min(y, want[k].length - 1)];
                    eight[y][left] = row[Math.min(left, row.length - 1)];
                }
            }
            int[] block = Model.forward(eight, ones());
            for (int n = 0; n < 64; n++) {
                Check.due("beside shape " + shapes[k] + ", coefficient " + n, x.coefficientAt(1, 0, 0, n), block[n]);
            }
        }
    }
}
