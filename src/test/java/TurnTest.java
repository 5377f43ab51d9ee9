import java.util.Random;

/** Promise 9: pictures transposed, mirrored, flipped and turned. */
public final class TurnTest {
    public static void main(String[] args) {
        kindsThatAreNot();
        placesOfCoefficients();
        leastAndGreatest();
        steps();
        placesOfBlocks();
        shapesChangePlaces();
        wholeUnitsOnly();
        blocksThatAreGone();
        noWholeUnit();
        asItIsThen();
        twiceIsOnce();
        byChance();
        Check.end();
    }

    private static boolean transposes(int kind) {
        return kind == 0 || kind == 3 || kind == 5;
    }

    private static boolean mirrors(int kind) {
        return kind == 1 || kind == 3 || kind == 4;
    }

    private static boolean flips(int kind) {
        return kind == 2 || kind == 4 || kind == 5;
    }

    /** Two components, of this shape and of 1 by 1, in which the first coefficients tell where they are. */
    private static Model.Pic picture(int width, int height, int shape) {
        Model.Pic pic = Parts.plain(width, height, 2);
        pic.h[0] = shape >> 4;
        pic.v[0] = shape & 15;
        pic.makeBlocks();
        for (int c = 0; c < 2; c++) {
            for (int by = 0; by < pic.down(c); by++) {
                for (int bx = 0; bx < pic.across(c); bx++) {
                    for (int k = 0; k < 5; k++) {
                        pic.blocks[c][by][bx][k] = value(c, bx, by, k);
                    }
                }
            }
        }
        return pic;
    }

    private static Subject open(int width, int height, int shape) {
        return Parts.open("a picture", Parts.fileOf(picture(width, height, shape), 0));
    }

    private static int value(int c, int bx, int by, int k) {
        return 1 + 500 * c + 50 * by + 5 * bx + k;
    }

    private static void kindsThatAreNot() {
        Check.sentence("true; false if there is none, no such kind,");
        Subject x = new Subject();
        for (int kind = -1; kind < 7; kind++) {
            Check.due("no picture, kind " + kind, x.turnBy(kind), false);
        }
        Check.due("still none", x.aboutPicture(0), -1);
        Subject y = open(16, 8, 0x11);
        for (int kind : new int[] {-1, -2, 6, 7, 256, Integer.MAX_VALUE, Integer.MIN_VALUE}) {
            Check.due("kind " + kind, y.turnBy(kind), false);
            Check.due("it stays", y.aboutPicture(0), 16);
            Check.due("its blocks stay", y.coefficientAt(0, 1, 0, 1), value(0, 1, 0, 1));
        }
    }

    private static void placesOfCoefficients() {
        Check.sentence("its coefficient (v, u) the old one, with the other sign if u is odd. "
            + "To FLIP it: likewise with HEIGHT, from below, if v is odd.");
        for (int kind = 0; kind < 6; kind++) {
            Model.Pic pic = Parts.plain(8, 8, 1);
            for (int k = 0; k < 64; k++) {
                pic.blocks[0][0][0][k] = 100 + k;
            }
            Subject x = Parts.open("one block", Parts.fileOf(pic, 0));
            Check.due("turn", x.turnBy(kind), true);
            for (int k = 0; k < 64; k++) {
                int v = Model.PLACES[k][0];
                int u = Model.PLACES[k][1];
                int from = transposes(kind) ? Model.placeNumber(u, v) : k;
                int want = (100 + from) * ((mirrors(kind) && u % 2 == 1) != (flips(kind) && v % 2 == 1) ? -1 : 1);
                Check.due("kind " + kind + ", coefficient " + k, x.coefficientAt(0, 0, 0, k), want);
            }
        }
    }

    private static void leastAndGreatest() {
        Check.sentence("its coefficient (v, u) the old (u, v)");
        for (int kind = 0; kind < 6; kind++) {
            Model.Pic pic = Parts.plain(8, 8, 1);
            for (int k = 0; k < 64; k++) {
                pic.blocks[0][0][0][k] = k == 0 ? -1024 : k % 2 == 0 ? -1023 : 1023;
            }
            Subject x = Parts.open("one block", Parts.fileOf(pic, 0));
            Check.due("turn", x.turnBy(kind), true);
            Check.due("the least direct one", x.coefficientAt(0, 0, 0, 0), -1024);
            Check.due("amounts", x.aboutPicture(5), 1024 + 63 * 1023);
            int length = x.saveAs(0, 0);
            x.takeOutput();
            Check.due("it can be saved and opened", length > 0 ? x.openInput() : -1, 0);
            Check.due("amounts", x.aboutPicture(5), 1024 + 63 * 1023);
        }
    }

    private static void steps() {
        Check.sentence("its STEP (v, u) the old (u, v).");
        for (int kind = 0; kind < 6; kind++) {
            Model.Pic pic = Parts.plain(8, 8, 2);
            for (int k = 0; k < 64; k++) {
                pic.steps[0][k] = 10 + k;
                pic.steps[1][k] = 255 - k;
            }
            Subject x = Parts.open("steps", Parts.fileOf(pic, 0));
            Check.due("turn", x.turnBy(kind), true);
            for (int k = 0; k < 64; k++) {
                int from = transposes(kind) ? Model.placeNumber(Model.PLACES[k][1], Model.PLACES[k][0]) : k;
                Check.due("kind " + kind + ", step " + k, x.stepAt(0, k), 10 + from);
                Check.due("kind " + kind + ", step " + k, x.stepAt(1, k), 255 - from);
            }
        }
    }

    private static void placesOfBlocks() {
        Check.sentence("block (bx, by) of a component is the old (by, bx),");
        Check.sentence("then block (bx, by) is the old one that lies as far from the right,");
        for (int kind = 0; kind < 6; kind++) {
            // Three units by two of 16 by 16: 6 by 4 blocks and 3 by 2.
            Subject x = open(48, 32, 0x22);
            Check.due("turn", x.turnBy(kind), true);
            Check.due("width", x.aboutPicture(0), transposes(kind) ? 32 : 48);
            Check.due("height", x.aboutPicture(1), transposes(kind) ? 48 : 32);
            for (int c = 0; c < 2; c++) {
                int across = x.aboutPicture(10 + 4 * c);
                int down = x.aboutPicture(11 + 4 * c);
                Check.due("across", across, (transposes(kind) ? 4 : 6) >> c);
                Check.due("down", down, (transposes(kind) ? 6 : 4) >> c);
                for (int by = 0; by < down; by++) {
                    for (int bx = 0; bx < across; bx++) {
                        int fromX = mirrors(kind) ? across - 1 - bx : bx;
                        int fromY = flips(kind) ? down - 1 - by : by;
                        int want = transposes(kind) ? value(c, fromY, fromX, 0) : value(c, fromX, fromY, 0);
                        Check.due("kind " + kind + ", block " + bx + ", " + by, x.coefficientAt(c, bx, by, 0), want);
                    }
                }
            }
        }
    }

    private static void shapesChangePlaces() {
        Check.sentence("To TRANSPOSE it: WIDTH and HEIGHT, and the H and V of each component, change places;");
        for (int kind = 0; kind < 6; kind++) {
            Subject x = open(32, 24, 0x21);
            Check.due("turn", x.turnBy(kind), true);
            boolean turned = transposes(kind);
            Check.due("H", x.aboutPicture(8), turned ? 1 : 2);
            Check.due("V", x.aboutPicture(9), turned ? 2 : 1);
            Check.due("H of the other", x.aboutPicture(12), 1);
            Check.due("width", x.aboutPicture(0), turned ? 24 : 32);
            Check.due("blocks", x.aboutPicture(3), 6 + 12);
        }
        // Nothing is cut where it is only transposed.
        Subject x = open(9, 20, 0x21);
        Check.due("turn", x.turnBy(0), true);
        Check.due("width", x.aboutPicture(0), 20);
        Check.due("height", x.aboutPicture(1), 9);
        Check.due("block", x.coefficientAt(0, 2, 1, 0), value(0, 1, 2, 0));
        Subject one = open(1, 1, 0x22);
        Check.due("turn of one sample", one.turnBy(0), true);
        Check.due("width", one.aboutPicture(0), 1);
    }

    private static void wholeUnitsOnly() {
        Check.sentence("To MIRROR it: WIDTH is what it has in whole UNITS (8 * HM each), blocks beyond are gone;");
        // 39 by 25 in units of 16 by 8: two whole ones across, three down.
        int[][] sizes = {{25, 39}, {32, 25}, {39, 24}, {24, 39}, {32, 24}, {25, 32}};
        for (int kind = 0; kind < 6; kind++) {
            Subject x = open(39, 25, 0x21);
            Check.due("turn", x.turnBy(kind), true);
            Check.due("width by kind " + kind, x.aboutPicture(0), sizes[kind][0]);
            Check.due("height by kind " + kind, x.aboutPicture(1), sizes[kind][1]);
        }
        // In units of 8 by 16.
        int[][] tall = {{25, 39}, {32, 25}, {39, 16}, {16, 39}, {32, 16}, {25, 32}};
        for (int kind = 0; kind < 6; kind++) {
            Subject x = open(39, 25, 0x12);
            Check.due("turn", x.turnBy(kind), true);
            Check.due("width by kind " + kind, x.aboutPicture(0), tall[kind][0]);
            Check.due("height by kind " + kind, x.aboutPicture(1), tall[kind][1]);
        }
        int[] edges = {8, 8, 9, 8, 15, 8, 16, 16, 17, 16, 63, 56, 64, 64};
        for (int k = 0; k < edges.length; k += 2) {
            Subject x = open(edges[k], 1, 0x11);
            Check.due("mirror " + edges[k], x.turnBy(1), true);
            Check.due("width", x.aboutPicture(0), edges[k + 1]);
            Check.due("height stays", x.aboutPicture(1), 1);
            Subject y = open(1, edges[k], 0x11);
            Check.due("flip " + edges[k], y.turnBy(2), true);
            Check.due("height", y.aboutPicture(1), edges[k + 1]);
            Check.due("width stays", y.aboutPicture(0), 1);
        }
    }

    private static void blocksThatAreGone() {
        Check.sentence("blocks beyond are gone; then block (bx, by) is the old one that lies as far from the right,");
        Subject x = open(39, 25, 0x21);
        x.turnBy(1);
        Check.due("across", x.aboutPicture(10), 4);
        Check.due("down", x.aboutPicture(11), 4);
        Check.due("blocks", x.aboutPicture(3), 16 + 8);
        for (int by = 0; by < 4; by++) {
            for (int bx = 0; bx < 4; bx++) {
                Check.due("block", x.coefficientAt(0, bx, by, 0), value(0, 3 - bx, by, 0));
            }
            Check.due("the other one's", x.coefficientAt(1, 1, by, 1), -value(1, 0, by, 1));
        }
        Subject y = open(39, 25, 0x21);
        y.turnBy(2);
        Check.due("down", y.aboutPicture(11), 3);
        Check.due("across", y.aboutPicture(10), 6);
        for (int by = 0; by < 3; by++) {
            Check.due("block", y.coefficientAt(0, 5, by, 0), value(0, 5, 2 - by, 0));
        }
        Subject z = open(39, 25, 0x21);
        z.turnBy(4);
        Check.due("blocks", z.aboutPicture(3), 12 + 6);
        Check.due("block", z.coefficientAt(0, 0, 0, 0), value(0, 3, 2, 0));
        Check.due("block", z.coefficientAt(1, 1, 2, 0), value(1, 0, 0, 0));
    }

    private static void noWholeUnit() {
        Check.sentence("or no whole UNIT is left across where it is MIRRORED, or down where it is FLIPPED (as it is then).");
        // 15 by 16 in units of 16 by 16, and the other way round.
        boolean[] wide = {true, false, true, true, false, false};
        boolean[] tall = {true, true, false, false, false, true};
        for (int kind = 0; kind < 6; kind++) {
            Subject x = open(15, 16, 0x22);
            int sum = x.aboutPicture(5);
            Check.due("15 by 16, kind " + kind, x.turnBy(kind), wide[kind]);
            if (!wide[kind]) {
                unchanged(x, 15, 16, sum);
            }
            Subject y = open(16, 15, 0x22);
            Check.due("16 by 15, kind " + kind, y.turnBy(kind), tall[kind]);
            if (!tall[kind]) {
                unchanged(y, 16, 15, sum);
            }
            Subject z = open(15, 15, 0x22);
            Check.due("15 by 15, kind " + kind, z.turnBy(kind), kind == 0);
            Subject w = open(16, 16, 0x22);
            Check.due("16 by 16, kind " + kind, w.turnBy(kind), true);
            Subject small = open(7, 8, 0x11);
            Check.due("7 by 8, kind " + kind, small.turnBy(kind), wide[kind]);
            Subject low = open(8, 7, 0x11);
            Check.due("8 by 7, kind " + kind, low.turnBy(kind), tall[kind]);
        }
    }

    private static void unchanged(Subject x, int width, int height, int sum) {
        Check.due("width stays", x.aboutPicture(0), width);
        Check.due("height stays", x.aboutPicture(1), height);
        Check.due("amounts stay", x.aboutPicture(5), sum);
        for (int block = 0; block < 4; block++) {
            for (int k = 0; k < 5; k++) {
                Check.due("blocks stay", x.coefficientAt(0, block % 2, block / 2, k), value(0, block % 2, block / 2, k));
            }
        }
    }

    private static void asItIsThen() {
        Check.sentence("(as it is then)");
        // In units of 16 by 8: 15 by 8 has none across, but transposed it has one across, of 8, and none down, of 16.
        boolean[] across = {true, false, true, true, false, false};
        boolean[] units = {true, true, true, true, true, true};
        boolean[] down = {true, true, false, false, false, true};
        for (int kind = 0; kind < 6; kind++) {
            Check.due("15 by 8, kind " + kind, open(15, 8, 0x21).turnBy(kind), across[kind]);
            Check.due("16 by 8, kind " + kind, open(16, 8, 0x21).turnBy(kind), units[kind]);
            Check.due("16 by 7, kind " + kind, open(16, 7, 0x21).turnBy(kind), down[kind]);
            Check.due("8 by 15, kind " + kind, open(8, 15, 0x12).turnBy(kind), down[kind]);
            Check.due("8 by 16, kind " + kind, open(8, 16, 0x12).turnBy(kind), units[kind]);
            Check.due("7 by 16, kind " + kind, open(7, 16, 0x12).turnBy(kind), across[kind]);
        }
    }

    private static void twiceIsOnce() {
        Check.sentence("A QUARTER TURN is a TRANSPOSE and then a MIRROR.");
        int[][] same = {{0, 0}, {1, 1}, {2, 2}, {4, 4}, {3, 5}, {5, 3}, {1, 2, 4}, {3, 3, 4}, {0, 1, 5}, {0, 2, 3},
            {3, 3, 3, 3}, {5, 5, 5, 5}};
        for (int[] kinds : same) {
            Subject x = open(32, 16, 0x22);
            for (int kind : kinds) {
                Check.due("turn", x.turnBy(kind), true);
            }
            Check.due("width", x.aboutPicture(0), 32);
            for (int c = 0; c < 2; c++) {
                for (int by = 0; by < 2 >> c; by++) {
                    for (int bx = 0; bx < 4 >> c; bx++) {
                        for (int k = 0; k < 5; k++) {
                            Check.due("as before", x.coefficientAt(c, bx, by, k), value(c, bx, by, k));
                        }
                    }
                }
            }
        }
    }

    private static void byChance() {
        Check.sentence("The PICTURE is TRANSPOSED (kind 0), MIRRORED (1), FLIPPED (2), gets a QUARTER TURN (3), "
            + "is MIRRORED and FLIPPED (4), TRANSPOSED, then FLIPPED (5): true;");
        for (int round = 0; round < 60; round++) {
            Random random = new Random(round);
            Pair pair = new Pair("turns " + round);
            int[] file = new FileMaker(random, 40).make();
            if (file.length > 2000) {
                continue;
            }
            pair.giveBytes(file);
            pair.openInput();
            for (int k = 0; k < 3; k++) {
                pair.turnBy(random.nextInt(6));
                pair.comparePicture();
            }
            pair.saveAs(random.nextInt(3), random.nextInt(3));
            pair.compareOutput();
        }
    }
}
