/** Promise 10: pictures cut to some of their units. */
public final class CropTest {
    public static void main(String[] args) {
        withoutAPicture();
        unitsThatAreNot();
        whatIsLeft();
        whichBlocks();
        allOfIt();
        again();
        partsOfUnits();
        Check.end();
    }

    /** 39 by 25 in units of 16 by 8: three across and four down, the last ones of 7 and 1. */
    private static Subject picture() {
        Model.Pic pic = Parts.plain(39, 25, 2);
        pic.h[0] = 2;
        pic.makeBlocks();
        for (int c = 0; c < 2; c++) {
            for (int by = 0; by < pic.down(c); by++) {
                for (int bx = 0; bx < pic.across(c); bx++) {
                    pic.blocks[c][by][bx][0] = value(c, bx, by);
                    pic.blocks[c][by][bx][63] = -value(c, bx, by);
                }
            }
        }
        return Parts.open("a picture", Parts.fileOf(pic, 0));
    }

    private static int value(int c, int bx, int by) {
        return 1 + 300 * c + 50 * by + 5 * bx;
    }

    private static void withoutAPicture() {
        Check.sentence("true; false if there is none, w or h is below 1, or one of these UNITS is none.");
        Subject x = new Subject();
        Check.due("no picture", x.cropTo(0, 0, 1, 1), false);
        Check.due("still none", x.aboutPicture(0), -1);
    }

    private static void unitsThatAreNot() {
        Subject x = picture();
        int[][] none = {{0, 0, 0, 1}, {0, 0, 1, 0}, {0, 0, 0, 0}, {0, 0, -1, 1}, {0, 0, 1, -1}, {-1, 0, 1, 1}, {0, -1, 1, 1},
            {-1, 0, 2, 1}, {0, -1, 1, 2}, {3, 0, 1, 1}, {0, 4, 1, 1}, {4, 0, 1, 1}, {0, 5, 1, 1}, {0, 0, 4, 1}, {0, 0, 1, 5},
            {1, 0, 3, 1}, {2, 0, 2, 1}, {0, 1, 1, 4}, {0, 3, 1, 2}, {3, 0, 0, 1}, {3, 4, 0, 0}, {5, 0, -1, 1},
            {Integer.MAX_VALUE, 0, 1, 1}, {0, Integer.MAX_VALUE, 1, 1}, {Integer.MIN_VALUE, 0, 1, 1},
            {0, Integer.MIN_VALUE, 1, 1}, {0, 0, Integer.MAX_VALUE, 1}, {0, 0, 1, Integer.MAX_VALUE},
            {1, 0, Integer.MAX_VALUE, 1}, {0, 1, 1, Integer.MAX_VALUE}, {0, 0, Integer.MIN_VALUE, 1},
            {0, 0, 1, Integer.MIN_VALUE}, {Integer.MAX_VALUE, 0, Integer.MAX_VALUE, 1}, {1, 0, 1 << 31, 1},
            {1 << 29, 0, 1, 1}, {0, 1 << 29, 1, 1}, {0, 0, 1 << 28, 1}, {0, 0, 1, 1 << 29}};
        for (int[] w : none) {
            String call = "cropTo(" + w[0] + ", " + w[1] + ", " + w[2] + ", " + w[3] + ")";
            Check.due(call, x.cropTo(w[0], w[1], w[2], w[3]), false);
            Check.due("width stays", x.aboutPicture(0), 39);
            Check.due("height stays", x.aboutPicture(1), 25);
        }
        Check.due("blocks stay", x.aboutPicture(4), 2 * 36);
        Check.due("a block stays", x.coefficientAt(0, 5, 3, 63), -value(0, 5, 3));
    }

    private static void whatIsLeft() {
        Check.sentence("The PICTURE is cut to w by h UNITS from unit (x, y) on; WIDTH and HEIGHT are what is left of them there:");
        for (int left = 0; left < 3; left++) {
            for (int w = 1; left + w <= 3; w++) {
                for (int top = 0; top < 4; top++) {
                    for (int h = 1; top + h <= 4; h++) {
                        Subject x = picture();
                        Check.due("crop", x.cropTo(left, top, w, h), true);
                        Check.due("width", x.aboutPicture(0), left + w == 3 ? 39 - 16 * left : 16 * w);
                        Check.due("height", x.aboutPicture(1), top + h == 4 ? 25 - 8 * top : 8 * h);
                        Check.due("across", x.aboutPicture(10), 2 * w);
                        Check.due("down", x.aboutPicture(11), h);
                        Check.due("across", x.aboutPicture(14), w);
                        Check.due("blocks", x.aboutPicture(3), 3 * w * h);
                    }
                }
            }
        }
    }

    private static void whichBlocks() {
        Check.sentence("from unit (x, y) on");
        int[][] cases = {{0, 0, 1, 1}, {1, 2, 2, 2}, {2, 3, 1, 1}, {0, 3, 3, 1}, {2, 0, 1, 4}, {1, 1, 1, 2}};
        for (int[] w : cases) {
            Subject x = picture();
            Check.due("crop", x.cropTo(w[0], w[1], w[2], w[3]), true);
            for (int by = 0; by < w[3]; by++) {
                for (int bx = 0; bx < 2 * w[2]; bx++) {
                    Check.due("block", x.coefficientAt(0, bx, by, 0), value(0, 2 * w[0] + bx, w[1] + by));
                    Check.due("block", x.coefficientAt(0, bx, by, 63), -value(0, 2 * w[0] + bx, w[1] + by));
                }
                for (int bx = 0; bx < w[2]; bx++) {
                    Check.due("block of the other", x.coefficientAt(1, bx, by, 0), value(1, w[0] + bx, w[1] + by));
                }
            }
            Check.due("no block beyond", x.setCoefficient(0, 2 * w[2], 0, 0, 1), false);
            Check.due("no block below", x.setCoefficient(0, 0, w[3], 0, 1), false);
            Check.due("steps stay", x.stepAt(1, 9), 1);
        }
    }

    private static void allOfIt() {
        Check.sentence("WIDTH and HEIGHT are what is left of them there");
        Subject x = picture();
        int sum = x.aboutPicture(5);
        Check.due("all of it", x.cropTo(0, 0, 3, 4), true);
        Check.due("width", x.aboutPicture(0), 39);
        Check.due("height", x.aboutPicture(1), 25);
        Check.due("amounts", x.aboutPicture(5), sum);
        Subject one = Parts.open("one unit", Tiny.FILE);
        Check.due("one unit", one.cropTo(0, 0, 1, 1), true);
        Check.due("width", one.aboutPicture(0), 8);
        Check.due("no second one", one.cropTo(0, 0, 2, 1), false);
        Check.due("no second one", one.cropTo(0, 0, 1, 2), false);
        Check.due("no second one", one.cropTo(1, 0, 1, 1), false);
        Check.due("no second one", one.cropTo(0, 1, 1, 1), false);
    }

    private static void again() {
        Check.sentence("or one of these UNITS is none.");
        Subject x = picture();
        Check.due("the last ones", x.cropTo(1, 2, 2, 2), true);
        Check.due("width", x.aboutPicture(0), 23);
        Check.due("height", x.aboutPicture(1), 9);
        Check.due("of these the last one", x.cropTo(1, 1, 1, 1), true);
        Check.due("width", x.aboutPicture(0), 7);
        Check.due("height", x.aboutPicture(1), 1);
        Check.due("block", x.coefficientAt(0, 0, 0, 0), value(0, 4, 3));
        Check.due("no more units", x.cropTo(1, 0, 1, 1), false);
        Check.due("it can be shown", x.showAt(8, true), true);
        Check.due("W", x.statusOf(8), 7);
        Check.due("it can be saved", x.saveAs(2, 1) > 0, true);
        x.takeOutput();
        Check.due("and opened", x.openInput(), 0);
        Check.due("width", x.aboutPicture(0), 7);
    }

    private static void partsOfUnits() {
        Check.sentence("A UNIT ROUND has (all divisions here up to the next whole number) WIDTH / (8 * HM) units across "
            + "and HEIGHT / (8 * VM) down.");
        // Widths in units of 8 and of 16: how many there are, and what is left in the last one.
        int[][] cases = {{1, 1, 1, 1}, {8, 1, 8, 1}, {9, 2, 1, 1}, {15, 2, 7, 1}, {16, 2, 8, 1}, {17, 3, 1, 2}, {32, 4, 8, 2},
            {33, 5, 1, 3}, {63, 8, 7, 4}, {64, 8, 8, 4}};
        for (int[] w : cases) {
            for (int shape : new int[] {0x00, 0x01, 0x02}) {
                boolean down = shape == 2;
                int units = shape == 0 ? w[1] : w[3];
                int unit = shape == 0 ? 8 : 16;
                Model.Pic pic = down ? Parts.plain(8, w[0], 2) : Parts.plain(w[0], 8, 2);
                pic.h[0] = 1 + (shape & 1);
                pic.v[0] = 1 + (shape >> 1);
                pic.makeBlocks();
                int[] file = Parts.fileOf(pic, 0);
                Subject x = Parts.open("a picture", file);
                Check.due("one too many", down ? x.cropTo(0, units, 1, 1) : x.cropTo(units, 0, 1, 1), false);
                Check.due("one too many", down ? x.cropTo(0, 0, 1, units + 1) : x.cropTo(0, 0, units + 1, 1), false);
                Check.due("the last one", down ? x.cropTo(0, units - 1, 1, 1) : x.cropTo(units - 1, 0, 1, 1), true);
                Check.due("what is left", x.aboutPicture(down ? 1 : 0), w[0] - unit * (units - 1));
            }
        }
    }
}
