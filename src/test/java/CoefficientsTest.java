/** Promises 11, 12 and 19: coefficients, and what can be asked of a picture. */
public final class CoefficientsTest {
    public static void main(String[] args) {
        values();
        valuesThatAreNot();
        placesThatAreNot();
        oneAlone();
        withoutAPicture();
        about();
        aboutAmounts();
        aboutNothing();
        Check.end();
    }

    /** 17 by 9 with 2 by 2 and 1 by 1: 4 by 2 blocks and 2 by 1. */
    private static Subject picture() {
        Model.Pic pic = Parts.plain(17, 9, 2);
        pic.h[0] = 2;
        pic.v[0] = 2;
        pic.makeBlocks();
        for (int c = 0; c < 2; c++) {
            for (int by = 0; by < pic.down(c); by++) {
                for (int bx = 0; bx < pic.across(c); bx++) {
                    for (int k = 0; k < 3; k++) {
                        pic.blocks[c][by][bx][k] = value(c, bx, by, k);
                    }
                }
            }
        }
        return Parts.open("a picture", Parts.fileOf(pic, 0));
    }

    private static int value(int c, int bx, int by, int k) {
        return 1 + 100 * c + 30 * by + 5 * bx + k;
    }

    private static void values() {
        Check.sentence("0, the DIRECT one, is -1024 .. 1023, the others -1023 .. 1023.");
        Subject x = picture();
        int[][] right = {{0, 1023}, {0, -1024}, {0, -1023}, {0, 0}, {1, 1023}, {1, -1023}, {1, 0}, {63, 1023}, {63, -1023},
            {63, 0}, {32, 1}, {32, -1}};
        for (int[] w : right) {
            Check.due("value " + w[1], x.setCoefficient(0, 3, 1, w[0], w[1]), true);
            Check.due("is " + w[1], x.coefficientAt(0, 3, 1, w[0]), w[1]);
        }
        for (int k = 0; k < 64; k++) {
            Check.due("the least of " + k, x.setCoefficient(1, 1, 0, k, -1024), k == 0);
            Check.due("the least of " + k, x.setCoefficient(1, 1, 0, k, -1023), true);
            Check.due("is it", x.coefficientAt(1, 1, 0, k), -1023);
            Check.due("one more than the greatest", x.setCoefficient(1, 1, 0, k, 1024), false);
            Check.due("still is it", x.coefficientAt(1, 1, 0, k), -1023);
        }
    }

    private static void valuesThatAreNot() {
        Check.sentence("false if there is none such, or it is not -1023 (for k 0: -1024) .. 1023.");
        Subject x = picture();
        int sum = x.aboutPicture(5);
        int[] wrong = {1024, 1025, 2048, 65536, Integer.MAX_VALUE, -1025, -1026, -65536, Integer.MIN_VALUE};
        for (int v : wrong) {
            for (int k : new int[] {0, 1, 63}) {
                Check.due("value " + v + " of " + k, x.setCoefficient(0, 0, 0, k, v), false);
            }
        }
        Check.due("-1024 of 1", x.setCoefficient(0, 0, 0, 1, -1024), false);
        Check.due("-1024 of 63", x.setCoefficient(0, 0, 0, 63, -1024), false);
        Check.due("nothing changed", x.aboutPicture(5), sum);
        Check.due("-1024 of 0", x.setCoefficient(0, 0, 0, 0, -1024), true);
    }

    private static final int[][] NONE = {{-1, 0, 0, 0}, {2, 0, 0, 0}, {3, 0, 0, 0}, {4, 0, 0, 0}, {0, -1, 0, 0}, {0, 4, 0, 0},
        {0, 0, -1, 0}, {0, 0, 2, 0}, {0, 3, 2, 0}, {0, 4, 1, 0}, {0, 0, 0, -1}, {0, 0, 0, 64}, {0, 0, 0, 65}, {1, 2, 0, 0},
        {1, 0, 1, 0}, {1, 3, 0, 0}, {0, -1, 1, 0}, {0, 8, 0, 0}, {1, -1, 0, 0}, {1, 0, -1, 0},
        {Integer.MAX_VALUE, 0, 0, 0}, {Integer.MIN_VALUE, 0, 0, 0}, {0, Integer.MAX_VALUE, 0, 0}, {0, Integer.MIN_VALUE, 0, 0},
        {0, 0, Integer.MAX_VALUE, 0}, {0, 0, Integer.MIN_VALUE, 0}, {0, 0, 0, Integer.MAX_VALUE}, {0, 0, 0, Integer.MIN_VALUE},
        {0, 1 << 30, 1 << 30, 0}, {0, -4, 1, 0}, {0, 0, 0, -64}, {0, 0, 0, 128}};

    private static void placesThatAreNot() {
        Check.sentence("Coefficient k of a block; 0 if there is none such.");
        Subject x = picture();
        int sum = x.aboutPicture(5);
        for (int[] w : NONE) {
            String where = w[0] + ", " + w[1] + ", " + w[2] + ", " + w[3];
            Check.due("setCoefficient(" + where + ")", x.setCoefficient(w[0], w[1], w[2], w[3], 5), false);
            Check.due("setCoefficient(" + where + ")", x.setCoefficient(w[0], w[1], w[2], w[3], 0), false);
            Check.due("coefficientAt(" + where + ")", x.coefficientAt(w[0], w[1], w[2], w[3]), 0);
        }
        Check.due("nothing changed", x.aboutPicture(5), sum);
        Check.due("nothing changed", x.aboutPicture(4), 10 * 3);
        Check.due("the last block", x.coefficientAt(0, 3, 1, 2), value(0, 3, 1, 2));
        Check.due("the last block of the other", x.coefficientAt(1, 1, 0, 2), value(1, 1, 0, 2));
    }

    private static void oneAlone() {
        Check.sentence("Coefficient k of block (bx, by) (bx across, by down) of component c becomes v: true;");
        Subject x = picture();
        Check.due("set", x.setCoefficient(0, 2, 1, 1, -77), true);
        for (int c = 0; c < 2; c++) {
            for (int by = 0; by < 2 - c; by++) {
                for (int bx = 0; bx < 4 - 2 * c; bx++) {
                    for (int k = 0; k < 64; k++) {
                        int want = k < 3 ? value(c, bx, by, k) : 0;
                        boolean it = c == 0 && bx == 2 && by == 1 && k == 1;
                        Check.due("block " + bx + ", " + by + " of " + c + " at " + k, x.coefficientAt(c, bx, by, k), it ? -77 : want);
                    }
                }
            }
        }
    }

    private static void withoutAPicture() {
        Check.sentence("false if there is none such");
        Subject x = new Subject();
        for (int c = -1; c < 4; c++) {
            Check.due("no picture", x.setCoefficient(c, 0, 0, 0, 0), false);
            Check.due("no picture", x.coefficientAt(c, 0, 0, 0), 0);
        }
        // A picture with more components ahead of one with fewer: the others are gone.
        x.paintFrom(1, 1, 4, 0, 100);
        Check.due("the fourth", x.coefficientAt(3, 0, 0, 0) != 0, true);
        x.paintFrom(1, 1, 1, 0, 100);
        x.paintFrom(1, 1, 1, 0, 100);
        for (int c = 1; c < 4; c++) {
            Check.due("no component " + c, x.coefficientAt(c, 0, 0, 0), 0);
            Check.due("no component " + c, x.setCoefficient(c, 0, 0, 0, 1), false);
        }
    }

    private static void about() {
        Check.sentence("Of the PICTURE: w = 0: WIDTH, 1: HEIGHT, 2: components, 3: blocks of all, "
            + "4: coefficients that are not 0 (of all blocks), 5: the sum of all amounts of these; "
            + "8 + 4 * c: H of component c, + 1 V, + 2 its blocks across, + 3 down.");
        Subject x = picture();
        int[] want = {17, 9, 2, 10, 30, 0, -1, -1, 2, 2, 4, 2, 1, 1, 2, 1, -1, -1, -1, -1, -1, -1, -1, -1, -1};
        for (int c = 0; c < 2; c++) {
            for (int by = 0; by < 2 - c; by++) {
                for (int bx = 0; bx < 4 - 2 * c; bx++) {
                    for (int k = 0; k < 3; k++) {
                        want[5] += value(c, bx, by, k);
                    }
                }
            }
        }
        for (int w = 0; w < want.length; w++) {
            Check.due("aboutPicture(" + w + ")", x.aboutPicture(w), want[w]);
        }
        // Four components, each of another shape.
        Subject y = new Subject();
        y.paintFrom(1, 1, 4, 0x1b, 100);
        int[] shapes = {2, 2, 2, 2, 1, 2, 1, 2, 2, 1, 2, 1, 1, 1, 1, 1};
        for (int k = 0; k < 16; k++) {
            Check.due("aboutPicture(" + (8 + k) + ")", y.aboutPicture(8 + k), shapes[k]);
        }
        Check.due("no fifth component", y.aboutPicture(24), -1);
    }

    private static void aboutAmounts() {
        Check.sentence("4: coefficients that are not 0 (of all blocks), 5: the sum of all amounts of these;");
        Subject x = Parts.open("a picture of 0s", Tiny.FILE);
        Check.due("none", x.aboutPicture(4), 0);
        Check.due("no amounts", x.aboutPicture(5), 0);
        x.setCoefficient(0, 0, 0, 0, -1024);
        x.setCoefficient(0, 0, 0, 63, -1023);
        x.setCoefficient(0, 0, 0, 7, 1023);
        Check.due("three", x.aboutPicture(4), 3);
        Check.due("their amounts", x.aboutPicture(5), 1024 + 1023 + 1023);
        x.setCoefficient(0, 0, 0, 7, 0);
        Check.due("two", x.aboutPicture(4), 2);
        Check.due("their amounts", x.aboutPicture(5), 1024 + 1023);
        // Of all blocks, not only a component's own: 8 by 8 of 2 by 2 has three more.
        Subject y = new Subject();
        y.canvasSize(0, 8, 8);
        y.paintFrom(8, 8, 1, 3, 1);
        Check.due("all four", y.aboutPicture(4), 4);
        Check.due("their amounts", y.aboutPicture(5), 4 * 1024);
        // The most that there can be.
        Subject z = Loud.subject(63);
        Check.due("all others", z.aboutPicture(4), 192 * 63);
        Check.due("their amounts", z.aboutPicture(5), 192 * 63 * 512);
    }

    private static void aboutNothing() {
        Check.sentence("NONE if there is none, or no such w.");
        Subject x = new Subject();
        int[] wrong = {-1, -2, 6, 7, 24, 25, 40, 256, Integer.MAX_VALUE, Integer.MIN_VALUE, Integer.MIN_VALUE + 7,
            Integer.MAX_VALUE - 7};
        for (int w : wrong) {
            Check.due("aboutPicture(" + w + ")", x.aboutPicture(w), -1);
        }
        for (int w = 0; w < 24; w++) {
            Check.due("no picture, " + w, x.aboutPicture(w), -1);
        }
        for (int many = 1; many <= 4; many++) {
            x.paintFrom(1, 1, many, 0, 100);
            for (int w : wrong) {
                Check.due("aboutPicture(" + w + ")", x.aboutPicture(w), -1);
            }
            for (int w = 8; w < 24; w++) {
                Check.due(many + " components, " + w, x.aboutPicture(w), w < 8 + 4 * many ? 1 : -1);
            }
        }
    }
}
