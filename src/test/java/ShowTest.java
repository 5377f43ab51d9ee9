import java.util.Arrays;
import java.util.Random;

/** Promise 8: a picture comes to the canvas at four sizes. */
public final class ShowTest {
    public static void main(String[] args) {
        sizesThatAreNot();
        tooLarge();
        sizesOfPlanes();
        otherPlanesStay();
        flatPictures();
        oneWave();
        limits();
        sumsWithoutBounds();
        boxes();
        triangles();
        cutAheadOfGrowing();
        acrossThenDown();
        onlyWhereItIsLess();
        nearTheSamples();
        allShapes();
        Check.end();
    }

    /** A file of one component, flat, of this size. */
    private static int[] file(int width, int height) {
        int blocks = (width + 7) / 8 * ((height + 7) / 8);
        return Parts.join(Parts.START, Parts.quantiser(0, 1), Parts.words(0, 0), Parts.words(16, 0),
            Parts.frame(192, height, width, 1, 17, 0), Parts.scan(0, 63, 0, 1, 0), Parts.data("00".repeat(blocks)), Parts.END);
    }

    private static void sizesThatAreNot() {
        Check.sentence("False if there is no PICTURE or no such n, or one of the two numbers is above 32.");
        Subject x = new Subject();
        for (int n = -1; n < 10; n++) {
            Check.due("no picture", x.showAt(n, n % 2 == 0), false);
        }
        x.paintFrom(1, 1, 1, 0, 100);
        x.canvasSize(0, 5, 6);
        x.canvasRow(0, 0, 0, -1);
        int[] wrong = {0, -1, -2, -8, 3, 5, 6, 7, 9, 10, 12, 16, 32, 64, 256 + 8, Integer.MAX_VALUE, Integer.MIN_VALUE};
        for (int n : wrong) {
            Check.due("showAt(" + n + ")", x.showAt(n, true), false);
            Check.due("showAt(" + n + ")", x.showAt(n, false), false);
        }
        Check.due("the plane stays", x.statusOf(8), 5);
        Check.due("its samples stay", x.canvasEight(0, 0, 0), 0xffffffffff000000L);
        for (int n : new int[] {1, 2, 4, 8}) {
            Check.due("showAt(" + n + ")", x.showAt(n, true), true);
        }
    }

    private static void tooLarge() {
        Check.sentence("or one of the two numbers is above 32.");
        int[][] sizes = {{32, 32, 8}, {33, 32, 4}, {32, 33, 4}, {33, 1, 4}, {1, 33, 4}, {64, 1, 4}, {1, 64, 4}, {64, 64, 4}};
        for (int[] size : sizes) {
            Subject x = Parts.open("a picture", file(size[0], size[1]));
            x.canvasSize(0, 7, 7);
            if (size[2] < 8) {
                Check.due(size[0] + " by " + size[1] + " at 8", x.showAt(8, true), false);
                Check.due("the plane stays", x.statusOf(8), 7);
                Check.due("the plane stays", x.statusOf(9), 7);
            }
            Check.due(size[0] + " by " + size[1], x.showAt(size[2], true), true);
            Check.due("W", x.statusOf(8), (size[0] * size[2] + 7) / 8);
            Check.due("H", x.statusOf(9), (size[1] * size[2] + 7) / 8);
        }
    }

    private static void sizesOfPlanes() {
        Check.sentence("The PICTURE comes to the CANVAS at size n, 1, 2, 4, 8, its planes (WIDTH * n) / 8 by (HEIGHT * n) / 8 "
            + "samples, rounded up:");
        for (int side = 1; side <= 64; side++) {
            Subject x = Parts.open("a picture", file(side, 65 - side));
            for (int n = 1; n <= 8; n *= 2) {
                int w = (side * n + 7) / 8;
                int h = ((65 - side) * n + 7) / 8;
                boolean fits = w <= 32 && h <= 32;
                Check.due("show " + side + " at " + n, x.showAt(n, false), fits);
                if (fits) {
                    Canvas.due("show " + side + " at " + n, x, 0, Canvas.flat(w, h, 128));
                    Check.due("no column behind it", x.canvasRow(0, w, 0, 0), false);
                    Check.due("no row behind it", x.canvasRow(0, 0, h, 0), false);
                }
            }
        }
    }

    private static void otherPlanesStay() {
        Check.sentence("Other planes stay.");
        for (int many = 1; many <= 4; many++) {
            Subject x = new Subject();
            x.paintFrom(1, 1, many, 0, 1);
            for (int p = 0; p < 4; p++) {
                Canvas.put(x, p, Canvas.flat(3 + p, 2, 10 + p));
            }
            Check.due("show", x.showAt(8, true), true);
            for (int p = 0; p < 4; p++) {
                Canvas.due("plane " + p + " of " + many, x, p, p < many ? new int[][] {{0}} : Canvas.flat(3 + p, 2, 10 + p));
            }
        }
    }

    private static void flatPictures() {
        Check.sentence("plane c, of component c: the samples of its blocks BACK of size n, side by side;");
        for (int sample = 0; sample < 256; sample += 5) {
            Subject x = new Subject();
            Canvas.put(x, 0, Canvas.flat(9, 8, sample));
            x.paintFrom(9, 8, 1, 0, 1);
            for (int n = 1; n <= 8; n *= 2) {
                Check.due("show", x.showAt(n, true), true);
                Canvas.due("the same sample", x, 0, Canvas.flat((9 * n + 7) / 8, n, sample));
            }
        }
        // Four components and four blocks each: where each of them lies.
        Model.Pic pic = Parts.plain(16, 16, 4);
        for (int c = 0; c < 4; c++) {
            for (int block = 0; block < 4; block++) {
                pic.blocks[c][block / 2][block % 2][0] = 8 * (40 * c + 9 * block - 90);
            }
        }
        Subject y = Parts.open("four components", Parts.fileOf(pic, 0));
        for (int n = 1; n <= 8; n *= 2) {
            y.showAt(n, false);
            for (int c = 0; c < 4; c++) {
                int[][] want = new int[2 * n][2 * n];
                for (int at = 0; at < 4 * n * n; at++) {
                    int block = at / (2 * n) / n * 2 + at % (2 * n) / n;
                    want[at / (2 * n)][at % (2 * n)] = 40 * c + 9 * block - 90 + 128;
                }
                Canvas.due("at " + n, y, c, want);
            }
        }
    }

    private static void oneWave() {
        Check.sentence("WAVE(n, u, x), for n 1, 2, 4 or 8, u and x 0 .. n - 1: K(4) if u is 0, else COS((2 * x + 1) * u * (8 / n)).");
        Model.Pic pic = Parts.plain(8, 8, 1);
        pic.blocks[0][0][0][1] = 100;
        Subject x = Parts.open("a wave", Parts.fileOf(pic, 0));
        x.showAt(8, false);
        // P(0, 1) = 5793 * 100 by 2048: 282.86, so 283; S = WAVE(8, 1, x) * 283 by 131072: of 8035, 6811, 4551, 1598.
        int[] eight = {128 + 17, 128 + 15, 128 + 10, 128 + 3, 128 - 3, 128 - 10, 128 - 15, 128 - 17};
        Canvas.due("across", x, 0, new int[][] {eight, eight, eight, eight, eight, eight, eight, eight});
        // At size 4 the waves are those of 4: 7568 and 3135; at size 2: 5793.
        x.showAt(4, false);
        int[] four = {128 + 16, 128 + 7, 128 - 7, 128 - 16};
        Canvas.due("across at size 4", x, 0, new int[][] {four, four, four, four});
        x.showAt(2, false);
        int[] two = {128 + 13, 128 - 13};
        Canvas.due("across at size 2", x, 0, new int[][] {two, two});
        x.showAt(1, false);
        Canvas.due("across at size 1", x, 0, new int[][] {{128}});
        x.turnBy(0);
        x.showAt(8, false);
        int[][] down = new int[8][8];
        for (int y = 0; y < 8; y++) {
            Arrays.fill(down[y], eight[y]);
        }
        Canvas.due("down", x, 0, down);
        Check.sentence("for v and u below n:");
        // What goes across n times or more does not show at size n.
        for (int n = 1; n <= 8; n *= 2) {
            for (int u = 0; u < 8; u++) {
                Model.Pic one = Parts.plain(8, 8, 1);
                one.blocks[0][0][0][Model.placeNumber(0, u)] = 400;
                Subject y = Parts.open("one wave", Parts.fileOf(one, 0));
                y.showAt(n, false);
                Canvas.due(u + " across at " + n, y, 0, Model.back(one.blocks[0][0][0], one.steps[0], n));
                Check.due("it shows", Canvas.at(y, 0, 0, 0) != 128, u < n);
                Model.Pic other = Parts.plain(8, 8, 1);
                other.blocks[0][0][0][Model.placeNumber(u, 0)] = 400;
                Subject z = Parts.open("one wave", Parts.fileOf(other, 0));
                z.showAt(n, false);
                Check.due("it shows", Canvas.at(z, 0, 0, 0) != 128, u < n);
            }
        }
    }

    private static void limits() {
        Check.sentence("+ 128, and 0 if that is below 0, 255 if it is above 255: n by n samples.");
        // A direct coefficient of 8 * (s - 128) with the step 1 is the sample s.
        int[][] cases = {{-1024, 0}, {-1016, 1}, {1016, 255}, {1023, 255}, {0, 128}};
        for (int[] w : cases) {
            Subject x = Parts.open("one block", file(8, 8));
            x.setCoefficient(0, 0, 0, 0, w[0]);
            for (int n = 1; n <= 8; n *= 2) {
                x.showAt(n, true);
                Canvas.due(w[0] + " at " + n, x, 0, Canvas.flat(n, n, w[1]));
            }
        }
        Subject x = Parts.open("steps of 255", Parts.START, Parts.quantiser(0, 255), Parts.words(0, 0), Parts.words(16, 0),
            Parts.frame(192, 8, 8, 1, 17, 0), Parts.scan(0, 63, 0, 1, 0), Parts.data("00"), Parts.END);
        int[][] strong = {{1023, 255}, {-1024, 0}, {4, 255}, {-5, 0}, {3, 224}, {-3, 32}};
        for (int[] w : strong) {
            x.setCoefficient(0, 0, 0, 0, w[0]);
            x.showAt(8, true);
            Canvas.due(w[0] + " times 255", x, 0, Canvas.flat(8, 8, w[1]));
        }
    }

    private static void sumsWithoutBounds() {
        Check.sentence("(sums here are whole numbers without bounds)");
        for (int round = 0; round < 24; round++) {
            Random random = new Random(round);
            Model.Pic pic = Parts.plain(8, 8, 1);
            Arrays.fill(pic.steps[0], 255);
            for (int k = 0; k < 64; k++) {
                int most = round < 2 ? 1023 : round < 12 ? 1 + random.nextInt(1023) : 1 + random.nextInt(6);
                pic.blocks[0][0][0][k] = round == 0 ? 1023 : round == 1 ? -1023 : random.nextInt(2 * most + 1) - most;
            }
            Subject x = Parts.open("strong waves", Parts.fileOf(pic, 0));
            for (int n = 1; n <= 8; n *= 2) {
                x.showAt(n, true);
                Canvas.due("strong waves at " + n, x, 0, Model.back(pic.blocks[0][0][0], pic.steps[0], n));
            }
        }
    }

    /** Component 1 of 1 by 1 beside 2 by 1: one block, with one wave across. */
    private static final int[] OLD = {145, 143, 138, 131, 125, 118, 113, 111};

    private static int[] waveFile(int width) {
        return Parts.join(Parts.START, Parts.quantiser(0, 1), Parts.words(0, 0), Parts.words(16, 0, 7),
            Parts.frame(192, 8, width, 1, 33, 0, 2, 17, 0), Parts.scan(0, 63, 0, 1, 0, 2, 0),
            Parts.data("0 0 0 0", "0 10 1100100 0"), Parts.END);
    }

    private static void boxes() {
        Check.sentence("To GROW ACROSS by boxes: W is twice as much; the new (2 * x, y) and (2 * x + 1, y) are the old (x, y).");
        for (int width = 1; width <= 16; width++) {
            Subject x = Parts.open("a wave", waveFile(width));
            x.showAt(8, false);
            int[] want = new int[width];
            for (int left = 0; left < width; left++) {
                want[left] = OLD[left / 2];
            }
            Canvas.due("boxes of " + width, x, 1, new int[][] {want, want, want, want, want, want, want, want});
        }
    }

    private static void triangles() {
        Check.sentence("By triangles: the new (2 * x, y) is SHIFTED(3 * the old (x, y) + the old (x - 1, y) + 1, 2), "
            + "the new (2 * x + 1, y) is SHIFTED(3 * the old (x, y) + the old (x + 1, y) + 2, 2);");
        // (3 * 145 + 145 + 1) / 4, (3 * 145 + 143 + 2) / 4, (3 * 143 + 145 + 1) / 4, (3 * 143 + 138 + 2) / 4, ..
        int[] want = {145, 145, 143, 142, 139, 136, 133, 130, 126, 123, 120, 117, 114, 113, 111, 111};
        Subject x = Parts.open("a wave", waveFile(16));
        x.showAt(8, true);
        Canvas.due("across", x, 1, new int[][] {want, want, want, want, want, want, want, want});
        Check.sentence("To GROW DOWN: likewise with y and H.");
        x.turnBy(0);
        x.showAt(8, true);
        int[][] down = new int[16][8];
        for (int y = 0; y < 16; y++) {
            Arrays.fill(down[y], want[y]);
        }
        Canvas.due("down", x, 1, down);
        x.showAt(8, false);
        for (int y = 0; y < 16; y++) {
            Arrays.fill(down[y], OLD[y / 2]);
        }
        Canvas.due("down by boxes", x, 1, down);
    }

    private static void cutAheadOfGrowing() {
        Check.sentence("of these the first (WIDTH * H / HM) * n / 8 across and (HEIGHT * V / VM) * n / 8 down (each division up);");
        Check.sentence("where there is no old (x - 1, y) or (x + 1, y), the old (x, y) itself.");
        for (int width = 1; width <= 16; width++) {
            // Of the eight samples so many are there; the last one has none beside it.
            int there = (width + 1) / 2;
            int[] want = new int[width];
            for (int left = 0; left < width; left++) {
                int here = OLD[left / 2];
                int beside = left % 2 == 0 ? left == 0 ? here : OLD[left / 2 - 1]
                    : left / 2 + 1 < there ? OLD[left / 2 + 1] : here;
                want[left] = 3 * here + beside + 1 + left % 2 >> 2;
            }
            Subject x = Parts.open("a wave", waveFile(width));
            x.showAt(8, true);
            Canvas.due("triangles of " + width, x, 1, new int[][] {want, want, want, want, want, want, want, want});
            x.turnBy(0);
            x.showAt(8, true);
            int[][] down = new int[width][8];
            for (int y = 0; y < width; y++) {
                Arrays.fill(down[y], want[y]);
            }
            Canvas.due("triangles down of " + width, x, 1, down);
        }
        // At smaller sizes: 13 across are 7 samples of the component; at n = 4 these are 4, at n = 1 one.
        Pair pair = new Pair("a wave of 13");
        pair.giveBytes(waveFile(13));
        pair.openInput();
        for (int n = 1; n <= 8; n *= 2) {
            pair.showAt(n, true);
            pair.compareCanvas();
        }
    }

    private static void acrossThenDown() {
        Check.sentence("GROWN ACROSS, if its H is less than HM, then DOWN, if its V is less than VM, by triangles or boxes; "
            + "of these the first so many across and down.");
        // The roundings differ: a picture of noise shows which was first.
        Pair pair = new Pair("across, then down");
        Random random = new Random(3);
        Model.Pic pic = Parts.plain(13, 11, 2);
        pic.h[0] = 2;
        pic.v[0] = 2;
        pic.makeBlocks();
        for (int k = 0; k < 64; k++) {
            pic.blocks[1][0][0][k] = random.nextInt(60) - 30;
        }
        pair.giveBytes(Parts.fileOf(pic, 0));
        pair.openInput();
        int other = 0;
        for (int n = 1; n <= 8; n *= 2) {
            pair.showAt(n, true);
            pair.compareCanvas();
            if (n == 8) {
                int[][] old = Model.first(Model.back(pic.blocks[1][0][0], pic.steps[1], 8), 7, 6);
                int[][] turned = Model.growAcross(Model.turned(Model.growAcross(Model.turned(old), true)), true);
                for (int y = 0; y < 11; y++) {
                    for (int left = 0; left < 13; left++) {
                        other += turned[y][left] == Canvas.at(pair.x, 1, left, y) ? 0 : 1;
                    }
                }
            }
            pair.showAt(n, false);
            pair.compareCanvas();
        }
        Check.due("the other way round is another", other > 0, true);
    }

    private static void onlyWhereItIsLess() {
        Check.sentence("if its H is less than HM");
        // 1 by 2 and 2 by 1: each grows one way alone.
        Pair pair = new Pair("tall and wide");
        Random random = new Random(4);
        Model.Pic pic = Parts.plain(15, 14, 3);
        pic.v[0] = 2;
        pic.h[1] = 2;
        pic.makeBlocks();
        for (int c = 0; c < 3; c++) {
            for (int[][] row : pic.blocks[c]) {
                for (int[] block : row) {
                    for (int k = 0; k < 30; k++) {
                        block[k] = random.nextInt(40) - 20;
                    }
                }
            }
        }
        pair.giveBytes(Parts.fileOf(pic, 0));
        pair.openInput();
        for (int n = 1; n <= 8; n *= 2) {
            pair.showAt(n, true);
            pair.compareCanvas();
            pair.showAt(n, false);
            pair.compareCanvas();
        }
        // One component of 2 by 2 alone does not grow, nor do four of them.
        Subject x = new Subject();
        Canvas.put(x, 0, new int[][] {{10, 20, 30}});
        x.paintFrom(3, 1, 1, 3, 1);
        x.canvasSize(0, 1, 1);
        x.showAt(8, true);
        Check.due("W", x.statusOf(8), 3);
        for (int left = 0; left < 3; left++) {
            Check.due("near", Math.abs(Canvas.at(x, 0, left, 0) - 10 - 10 * left) <= 1, true);
        }
    }

    /** With the finest steps a picture shows nearly what it was painted from. */
    private static void nearTheSamples() {
        Check.sentence("FORWARD of 8 by 8 samples: T(y, x) is the sample - 128;");
        for (int w = 1; w <= 32; w += 5) {
            for (int h = 1; h <= 32; h += 6) {
                int[][] rows = new int[h][w];
                for (int y = 0; y < h; y++) {
                    for (int left = 0; left < w; left++) {
                        rows[y][left] = (left * 37 + y * 59 + left * y) & 255;
                    }
                }
                Subject x = new Subject();
                Canvas.put(x, 0, rows);
                Check.due("paint", x.paintFrom(w, h, 1, 0, 1), true);
                x.canvasSize(0, 1, 1);
                Check.due("show", x.showAt(8, true), true);
                for (int y = 0; y < h; y++) {
                    for (int left = 0; left < w; left += 1 + w / 9) {
                        int off = Canvas.at(x, 0, left, y) - rows[y][left];
                        Check.due("near at " + left + ", " + y, Math.abs(off) <= 2, true);
                    }
                }
            }
        }
    }

    /** Each shape beside 2 by 2, at sizes where a division goes up or not. */
    private static void allShapes() {
        Check.sentence("(each division up)");
        int[][] sizes = {{1, 1}, {8, 8}, {9, 7}, {16, 15}, {17, 16}, {25, 31}, {32, 32}, {33, 8}, {49, 9}, {8, 57}, {64, 16}};
        for (int[] size : sizes) {
            Pair pair = new Pair("shapes of " + size[0] + " by " + size[1]);
            Random random = new Random(size[0]);
            Model.Pic pic = Parts.plain(size[0], size[1], 4);
            pic.h[0] = 2;
            pic.v[0] = 2;
            pic.h[1] = 2;
            pic.v[2] = 2;
            pic.makeBlocks();
            for (int c = 0; c < 4; c++) {
                for (int[][] row : pic.blocks[c]) {
                    for (int[] block : row) {
                        for (int k = 0; k < 8; k++) {
                            block[k] = random.nextInt(80) - 40;
                        }
                    }
                }
            }
            pair.giveBytes(Parts.fileOf(pic, 0));
            pair.openInput();
            for (int n = 1; n <= 8; n *= 2) {
                pair.showAt(n, n % 3 == 1);
                pair.compareCanvas();
                pair.compareStatus();
            }
        }
    }
}
