/** Promises 9 to 12 and 19: coefficients, and how they lie when a picture is turned or cropped. */
public final class TurnAndCropTest {
    public static void main(String[] args) {
        nothingToTurn();
        coefficients();
        about();
        places();
        turnsOfBlocks();
        wholeUnitsOnly();
        noWholeUnit();
        twiceIsOnce();
        crops();
        Check.end();
    }

    /** A picture of two components, with H and V 2 and 1, in which every coefficient is told by its place. */
    private static WavePictures picture(int width, int height, int shape) {
        int units = ((width + 8 * (shape >> 4) - 1) / (8 * (shape >> 4)))
            * ((height + 8 * (shape & 15) - 1) / (8 * (shape & 15)));
        int blocks = (shape >> 4) * (shape & 15) + 1;
        WavePictures x = new WavePictures();
        Parts.give(x, Parts.join(Parts.START, Parts.quantiser(0, 1), Parts.words(0, 0), Parts.words(16, 0),
            Parts.frame(192, height, width, 1, shape, 0, 2, 17, 0), Parts.scan(0, 63, 0, 1, 0, 2, 0),
            Parts.data("00".repeat(units * blocks)), Parts.END));
        Check.due("open", x.openInput(), 0);
        for (int c = 0; c < 2; c++) {
            for (int by = 0; by < x.aboutPicture(11 + 4 * c); by++) {
                for (int bx = 0; bx < x.aboutPicture(10 + 4 * c); bx++) {
                    x.setCoefficient(c, bx, by, 0, value(c, bx, by, 0));
                    x.setCoefficient(c, bx, by, 1, value(c, bx, by, 1));
                    x.setCoefficient(c, bx, by, 2, value(c, bx, by, 2));
                    x.setCoefficient(c, bx, by, 4, value(c, bx, by, 4));
                    x.setCoefficient(c, bx, by, 3, value(c, bx, by, 3));
                }
            }
        }
        return x;
    }

    private static int value(int c, int bx, int by, int k) {
        return 1 + 500 * c + 50 * by + 5 * bx + k;
    }

    private static void nothingToTurn() {
        WavePictures x = new WavePictures();
        for (int kind = -1; kind < 7; kind++) {
            Check.due("no picture, kind " + kind, x.turnBy(kind), false);
        }
        Check.due("no picture to crop", x.cropTo(0, 0, 1, 1), false);
        Check.due("no coefficient to set", x.setCoefficient(0, 0, 0, 0, 0), false);
        WavePictures y = picture(16, 16, 0x11);
        for (int kind : new int[] {-1, 6, Integer.MAX_VALUE, Integer.MIN_VALUE}) {
            Check.due("kind " + kind, y.turnBy(kind), false);
        }
    }

    private static void coefficients() {
        WavePictures x = picture(17, 9, 0x22);
        int[][] none = {{-1, 0, 0, 0}, {2, 0, 0, 0}, {0, -1, 0, 0}, {0, 4, 0, 0}, {0, 0, -1, 0}, {0, 0, 2, 0},
            {0, 0, 0, -1}, {0, 0, 0, 64}, {1, 2, 0, 0}, {1, 0, 1, 0}, {Integer.MAX_VALUE, 0, 0, 0},
            {0, Integer.MAX_VALUE, 0, 0}, {0, 0, Integer.MIN_VALUE, 0}, {0, 0, 0, Integer.MAX_VALUE}};
        int sum = x.aboutPicture(5);
        for (int[] w : none) {
            Check.due("setCoefficient", x.setCoefficient(w[0], w[1], w[2], w[3], 5), false);
            Check.due("coefficientAt", x.coefficientAt(w[0], w[1], w[2], w[3]), 0);
        }
        int[][] wrong = {{0, 1024}, {0, -1025}, {1, 1024}, {1, -1024}, {63, -1024}, {63, Integer.MIN_VALUE}};
        for (int[] w : wrong) {
            Check.due("value " + w[1], x.setCoefficient(0, 0, 0, w[0], w[1]), false);
        }
        Check.due("nothing changed", x.aboutPicture(5), sum);
        int[][] right = {{0, 1023}, {0, -1024}, {1, 1023}, {1, -1023}, {63, 0}, {63, -1023}};
        for (int[] w : right) {
            Check.due("value " + w[1], x.setCoefficient(0, 3, 1, w[0], w[1]), true);
            Check.due("is " + w[1], x.coefficientAt(0, 3, 1, w[0]), w[1]);
        }
        Check.due("others stay", x.coefficientAt(0, 2, 1, 0), value(0, 2, 1, 0));
    }

    private static void about() {
        WavePictures x = picture(17, 9, 0x22);
        int[] want = {17, 9, 2, 10, 50, 0, -1, -1, 2, 2, 4, 2, 1, 1, 2, 1, -1, -1, -1, -1, -1};
        for (int c = 0; c < 2; c++) {
            for (int by = 0; by < (c == 0 ? 2 : 1); by++) {
                for (int bx = 0; bx < (c == 0 ? 4 : 2); bx++) {
                    for (int k = 0; k < 5; k++) {
                        want[5] += value(c, bx, by, k);
                    }
                }
            }
        }
        for (int w = 0; w < want.length; w++) {
            Check.due("aboutPicture(" + w + ")", x.aboutPicture(w), want[w]);
        }
        for (int w : new int[] {-1, 24, 40, Integer.MAX_VALUE, Integer.MIN_VALUE}) {
            Check.due("aboutPicture(" + w + ")", x.aboutPicture(w), -1);
        }
        x.setCoefficient(1, 1, 0, 4, -1000);
        Check.due("amounts", x.aboutPicture(5), want[5] - value(1, 1, 0, 4) + 1000);
        x.setCoefficient(1, 1, 0, 4, 0);
        Check.due("one fewer", x.aboutPicture(4), 49);
    }

    /** One block: where each coefficient goes, and with which sign. */
    private static void places() {
        for (int kind = 0; kind < 6; kind++) {
            WavePictures x = new WavePictures();
            x.canvasSize(0, 8, 8);
            x.paintFrom(8, 8, 1, 0, 100);
            for (int k = 0; k < 64; k++) {
                x.setCoefficient(0, 0, 0, k, 100 + k);
            }
            Check.due("turn", x.turnBy(kind), true);
            for (int k = 0; k < 64; k++) {
                int v = Model.PLACES[k][0];
                int u = Model.PLACES[k][1];
                boolean transposed = kind == 0 || kind == 3 || kind == 5;
                int from = transposed ? Model.placeNumber(u, v) : k;
                boolean mirrored = (kind == 1 || kind == 3 || kind == 4) && u % 2 == 1;
                boolean flipped = (kind == 2 || kind == 4 || kind == 5) && v % 2 == 1;
                int want = (100 + from) * (mirrored != flipped ? -1 : 1);
                Check.due("kind " + kind + ", coefficient " + k, x.coefficientAt(0, 0, 0, k), want);
            }
        }
        // Steps that are not alike on both sides are turned, too.
        WavePictures x = new WavePictures();
        int[] told = new int[65];
        for (int k = 0; k < 64; k++) {
            told[1 + k] = 10 + k;
        }
        Parts.give(x, Parts.join(Parts.START, Parts.segment(219, told), Parts.words(0, 0), Parts.words(16, 0),
            Parts.frame(192, 8, 8, 1, 17, 0), Parts.scan(0, 63, 0, 1, 0), Parts.data("00"), Parts.END));
        Check.due("open", x.openInput(), 0);
        x.turnBy(1);
        Check.due("steps stay", x.stepAt(0, 1), 11);
        x.turnBy(0);
        int[] want = {10, 12, 11, 15, 14, 13, 19, 18, 17, 16};
        for (int k = 0; k < want.length; k++) {
            Check.due("step " + k, x.stepAt(0, k), want[k]);
        }
        Check.due("the last step", x.stepAt(0, 63), 73);
    }

    private static void turnsOfBlocks() {
        // Two units by one of 16 by 16: 4 by 2 blocks and 2 by 1.
        for (int kind = 0; kind < 6; kind++) {
            WavePictures x = picture(32, 16, 0x22);
            Check.due("turn", x.turnBy(kind), true);
            boolean transposed = kind == 0 || kind == 3 || kind == 5;
            Check.due("width", x.aboutPicture(0), transposed ? 16 : 32);
            Check.due("height", x.aboutPicture(1), transposed ? 32 : 16);
            for (int c = 0; c < 2; c++) {
                int across = x.aboutPicture(10 + 4 * c);
                int down = x.aboutPicture(11 + 4 * c);
                Check.due("across", across, (transposed ? 2 : 4) >> c);
                Check.due("down", down, (transposed ? 4 : 2) >> c);
                for (int by = 0; by < down; by++) {
                    for (int bx = 0; bx < across; bx++) {
                        int fromX = kind == 1 || kind == 3 || kind == 4 ? across - 1 - bx : bx;
                        int fromY = kind == 2 || kind == 4 || kind == 5 ? down - 1 - by : by;
                        int want = transposed ? value(c, fromY, fromX, 0) : value(c, fromX, fromY, 0);
                        Check.due("kind " + kind + ", block " + bx + ", " + by, x.coefficientAt(c, bx, by, 0), want);
                    }
                }
            }
        }
        // H and V change places.
        WavePictures x = picture(9, 20, 0x21);
        x.turnBy(0);
        Check.due("H", x.aboutPicture(8), 1);
        Check.due("V", x.aboutPicture(9), 2);
        Check.due("block", x.coefficientAt(0, 2, 1, 0), value(0, 1, 2, 0));
    }

    private static void wholeUnitsOnly() {
        // 39 by 25 in units of 16 by 8: two whole ones across, three down.
        int[][] sizes = {{25, 39}, {32, 25}, {39, 24}, {24, 39}, {32, 24}, {25, 32}};
        for (int kind = 0; kind < 6; kind++) {
            WavePictures x = picture(39, 25, 0x21);
            Check.due("turn", x.turnBy(kind), true);
            Check.due("width by kind " + kind, x.aboutPicture(0), sizes[kind][0]);
            Check.due("height by kind " + kind, x.aboutPicture(1), sizes[kind][1]);
        }
        WavePictures x = picture(39, 25, 0x21);
        x.turnBy(1);
        Check.due("across", x.aboutPicture(10), 4);
        Check.due("down", x.aboutPicture(11), 4);
        Check.due("the first one", x.coefficientAt(0, 0, 3, 0), value(0, 3, 3, 0));
        Check.due("the last one", x.coefficientAt(1, 1, 0, 1), -value(1, 0, 0, 1));
    }

    private static void noWholeUnit() {
        // 15 by 16 in units of 16 by 16, and the other way round.
        boolean[] wide = {true, false, true, true, false, false};
        boolean[] tall = {true, true, false, false, false, true};
        for (int kind = 0; kind < 6; kind++) {
            WavePictures x = picture(15, 16, 0x22);
            int sum = x.aboutPicture(5);
            Check.due("15 by 16, kind " + kind, x.turnBy(kind), wide[kind]);
            if (!wide[kind]) {
                Check.due("width stays", x.aboutPicture(0), 15);
                Check.due("blocks stay", x.coefficientAt(0, 1, 0, 2), value(0, 1, 0, 2));
                Check.due("amounts stay", x.aboutPicture(5), sum);
            }
            WavePictures y = picture(16, 15, 0x22);
            Check.due("16 by 15, kind " + kind, y.turnBy(kind), tall[kind]);
            Check.due("width", y.aboutPicture(0), kind == 0 || kind == 5 ? 15 : 16);
        }
    }

    private static void twiceIsOnce() {
        int[][] same = {{0, 0}, {1, 1}, {2, 2}, {4, 4}, {3, 5}, {5, 3}, {1, 2, 4}, {3, 3, 4}, {0, 1, 5}, {0, 2, 3}};
        for (int[] kinds : same) {
            WavePictures x = picture(32, 16, 0x22);
            for (int kind : kinds) {
                Check.due("turn", x.turnBy(kind), true);
            }
            for (int c = 0; c < 2; c++) {
                for (int by = 0; by < 2 >> c; by++) {
                    for (int bx = 0; bx < 4 >> c; bx++) {
                        for (int k = 0; k < 5; k++) {
                            Check.due("as before", x.coefficientAt(c, bx, by, k), value(c, bx, by, k));
                        }
                    }
                }
            }
        }
    }

    private static void crops() {
        WavePictures x = picture(39, 25, 0x21);
        int[][] none = {{0, 0, 0, 1}, {0, 0, 1, 0}, {-1, 0, 1, 1}, {0, -1, 1, 1}, {3, 0, 1, 1}, {0, 4, 1, 1},
            {0, 0, 4, 1}, {0, 0, 1, 5}, {1, 0, 3, 1}, {0, 1, 1, 4}, {Integer.MAX_VALUE, 0, 1, 1},
            {1, 0, Integer.MAX_VALUE, 1}, {0, 1, 1, Integer.MAX_VALUE}, {Integer.MIN_VALUE, 0, 1, 1},
            {0, 0, Integer.MIN_VALUE, 1}};
        for (int[] w : none) {
            Check.due("cropTo", x.cropTo(w[0], w[1], w[2], w[3]), false);
        }
        Check.due("nothing changed", x.aboutPicture(0), 39);
        Check.due("all of it", x.cropTo(0, 0, 3, 4), true);
        Check.due("width", x.aboutPicture(0), 39);
        Check.due("height", x.aboutPicture(1), 25);
        Check.due("the last ones", x.cropTo(1, 2, 2, 2), true);
        Check.due("width", x.aboutPicture(0), 23);
        Check.due("height", x.aboutPicture(1), 9);
        Check.due("across", x.aboutPicture(10), 4);
        Check.due("down", x.aboutPicture(11), 2);
        for (int by = 0; by < 2; by++) {
            for (int bx = 0; bx < 4; bx++) {
                Check.due("block", x.coefficientAt(0, bx, by, 3), value(0, 2 + bx, 2 + by, 3));
            }
            Check.due("block", x.coefficientAt(1, 1, by, 3), value(1, 2, 2 + by, 3));
        }
        Check.due("the first one of these", x.cropTo(0, 0, 1, 1), true);
        Check.due("width", x.aboutPicture(0), 16);
        Check.due("height", x.aboutPicture(1), 8);
        Check.due("blocks", x.aboutPicture(3), 3);
        Check.due("block", x.coefficientAt(1, 0, 0, 4), value(1, 1, 2, 4));
        Check.due("no more units", x.cropTo(0, 0, 2, 1), false);
        Check.due("steps stay", x.stepAt(1, 9), 1);
    }
}
