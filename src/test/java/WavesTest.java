import java.util.Arrays;
import java.util.Random;

/** Promises 7 and 8: the waves, their order in a block, and how they are rounded. */
public final class WavesTest {
    public static void main(String[] args) {
        zigzag();
        quarters();
        roundedDown();
        oneByOne();
        justUpOrDown();
        stepsOfEach();
        thereAndBack();
        Check.end();
    }

    /** A picture of one block with steps 1. */
    private static Subject block(int k, int value) {
        Model.Pic pic = Parts.plain(8, 8, 1);
        pic.blocks[0][0][0][k] = value;
        return Parts.open("one block", Parts.fileOf(pic, 0));
    }

    /** How often a row of samples changes from one side of 128 to the other. */
    private static int changes(Subject x, boolean across) {
        int changes = 0;
        boolean before = false;
        for (int k = 0; k < 8; k++) {
            int sample = across ? Canvas.at(x, 0, k, 0) : Canvas.at(x, 0, 0, k);
            Check.due("away from the middle", sample != 128, true);
            changes += k > 0 && sample > 128 != before ? 1 : 0;
            before = sample > 128;
        }
        return changes;
    }

    private static void zigzag() {
        Check.sentence("ZIGZAG order numbers the places (v, u) of a block, v and u 0 .. 7 (u tells how often a wave goes across, "
            + "v down), from 0 to 63: the place 0 is (0, 0), then u + v = 1, 2, .. 14; on a diagonal with an odd sum from u "
            + "greatest to u least, with an even one from v greatest to v least.");
        int k = 0;
        for (int sum = 0; sum <= 14; sum++) {
            for (int step = 0; step < 8; step++) {
                int first = Math.min(sum, 7) - step;
                int second = sum - first;
                if (first < 0 || second > 7) {
                    continue;
                }
                int u = sum % 2 == 1 ? first : second;
                int v = sum % 2 == 1 ? second : first;
                Subject x = block(k, 1000);
                x.showAt(8, false);
                Check.due("coefficient " + k + " goes across", changes(x, true), u);
                Check.due("coefficient " + k + " goes down", changes(x, false), v);
                Check.due("the first sample is above the middle", Canvas.at(x, 0, 0, 0) > 128, true);
                k++;
            }
        }
        Check.due("all of them", k, 64);
    }

    private static void quarters() {
        Check.sentence("K(0) .. K(8) are 8192, 8035, 7568, 6811, 5793, 4551, 3135, 1598, 0.");
        Check.sentence("COS(m), with m modulo 32: K(m) for 0 .. 8, -K(16 - m) for 9 .. 16, -K(m - 16) for 17 .. 24, K(32 - m) for 25 .. 31.");
        // Sixteenths of half a turn: what a wave is there, to the nearest of 8192 parts.
        for (int n = 2; n <= 8; n *= 2) {
            for (int u = 1; u < n; u++) {
                Subject x = block(Model.placeNumber(0, u), 1016);
                x.showAt(n, false);
                long p = Math.floorDiv(5793L * 1016 + 1024, 2048L);
                for (int left = 0; left < n; left++) {
                    long wave = Math.round(8192 * Math.cos(Math.PI / (2 * n) * (2 * left + 1) * u));
                    long sample = Math.floorDiv(wave * p + 65536, 131072L) + 128;
                    Check.due("wave " + u + " of " + n + " at " + left, Canvas.at(x, 0, left, 0),
                        Math.max(0, Math.min(255, sample)));
                }
            }
        }
    }

    private static void roundedDown() {
        Check.sentence("ROUND(v, s) is v + 2^(s - 1), shifted right by s (rounded down).");
        // A direct coefficient d is 128 + d / 8, but rounded twice: by 2048, then by 131072.
        for (int d = -1024; d <= 1023; d += 13) {
            Subject x = block(0, d);
            long p = Math.floorDiv(5793L * d + 1024, 2048L);
            long sample = Math.floorDiv(5793L * p + 65536, 131072L) + 128;
            for (int n = 1; n <= 8; n *= 2) {
                x.showAt(n, false);
                Check.due(d + " at " + n, Canvas.at(x, 0, n - 1, n - 1), Math.max(0, Math.min(255, sample)));
            }
        }
        Check.sentence("BACK of size n: D(v, u) is the coefficient times the STEP;");
        for (int step : new int[] {1, 2, 100, 255}) {
            Subject x = Parts.open("steps", Parts.START, Parts.quantiser(0, step), Parts.words(0, 0), Parts.words(16, 0),
                Parts.frame(192, 8, 8, 1, 17, 0), Parts.scan(0, 63, 0, 1, 0), Parts.data("00"), Parts.END);
            x.setCoefficient(0, 0, 0, 0, 3);
            x.showAt(1, false);
            long p = Math.floorDiv(5793L * 3 * step + 1024, 2048L);
            Check.due("step " + step, Canvas.at(x, 0, 0, 0),
                Math.min(255, Math.floorDiv(5793L * p + 65536, 131072L) + 128));
        }
    }

    /** Each coefficient alone at each size, with both signs. */
    private static void oneByOne() {
        Check.sentence("P(y, u) = ROUND(sum over v of WAVE(n, v, y) * D(v, u), 11)");
        Check.sentence("S(y, x) = ROUND(sum over u of WAVE(n, u, x) * P(y, u), 17)");
        for (int k = 0; k < 64; k++) {
            Model.Pic pic = Parts.plain(8, 8, 1);
            pic.blocks[0][0][0][k] = k % 2 == 0 ? 777 : -777;
            pic.blocks[0][0][0][(k + 29) % 64] = 55;
            Subject x = Parts.open("one block", Parts.fileOf(pic, 0));
            for (int n = 1; n <= 8; n *= 2) {
                x.showAt(n, true);
                Canvas.due("coefficient " + k + " at " + n, x, 0, Model.back(pic.blocks[0][0][0], pic.steps[0], n));
            }
        }
    }

    /**
     * Blocks in which a sum lies so near to where rounding goes the other way that one more, or one less, would show:
     * of the first sums and of the second ones.
     */
    private static void justUpOrDown() {
        Check.sentence("ROUND(v, s) is v + 2^(s - 1), shifted right by s (rounded down).");
        int[][] back = {{2, 1647, 3442, 3759}, {4, 29, 164, 905}, {4, 22, 1403, 1773}, {4, 7588, 15698, 16465},
            {4, 337, 17734, 17804}, {8, 113, 207, 226}, {8, 154, 168, 410}, {8, 2648, 15294, 16242}, {8, 142, 1586, 1884}};
        for (int[] row : back) {
            for (int k = 1; k < row.length; k++) {
                Random random = new Random(row[k]);
                Model.Pic pic = Parts.plain(8, 8, 1);
                int[] block = pic.blocks[0][0][0];
                for (int n = 0; n < 64; n++) {
                    block[n] = n == 0 ? random.nextInt(1201) - 600 : random.nextInt(81) - 40;
                }
                Subject x = Parts.open("a block", Parts.fileOf(pic, 0));
                x.showAt(row[0], false);
                Canvas.due("back at " + row[0] + ", seed " + row[k], x, 0, Model.back(block, pic.steps[0], row[0]));
            }
        }
        int[] forward = {81, 96, 155, 243, 330, 430, 4191, 5796, 7953, 2579, 11170, 11735};
        for (int seed : forward) {
            Random random = new Random(seed);
            int[][] rows = new int[8][8];
            for (int[] row : rows) {
                for (int k = 0; k < 8; k++) {
                    row[k] = random.nextInt(256);
                }
            }
            Subject x = new Subject();
            Canvas.put(x, 0, rows);
            x.paintFrom(8, 8, 1, 0, 1);
            int[] steps = new int[64];
            Arrays.fill(steps, 1);
            int[] want = Model.forward(rows, steps);
            for (int k = 0; k < 64; k++) {
                Check.due("forward, seed " + seed + ", coefficient " + k, x.coefficientAt(0, 0, 0, k), want[k]);
            }
        }
    }

    private static void stepsOfEach() {
        Check.sentence("BACK of size n: D(v, u) is the coefficient times the STEP;");
        Model.Pic pic = Parts.plain(8, 8, 4);
        for (int c = 0; c < 4; c++) {
            for (int k = 0; k < 64; k++) {
                pic.steps[c][k] = 1 + (7 * k + 31 * c) % 60;
                pic.blocks[c][0][0][k] = (5 * k + c) % 7 - 3;
            }
        }
        Subject x = Parts.open("steps of each", Parts.fileOf(pic, 0));
        for (int n = 1; n <= 8; n *= 2) {
            x.showAt(n, false);
            for (int c = 0; c < 4; c++) {
                Canvas.due("component " + c + " at " + n, x, c, Model.back(pic.blocks[c][0][0], pic.steps[c], n));
            }
        }
    }

    private static void thereAndBack() {
        Check.sentence("E(v, u) = ROUND(sum over x of WAVE(8, u, x) * P(v, x), 17);");
        // The samples of one strong wave make nearly that wave again, and nearly nothing else.
        for (int k = 0; k < 64; k++) {
            Subject x = block(k, 300);
            x.showAt(8, false);
            x.paintFrom(8, 8, 1, 0, 1);
            for (int other = 0; other < 64; other++) {
                int got = x.coefficientAt(0, 0, 0, other);
                Check.due("coefficient " + other + " of " + k, Math.abs(got - (other == k ? 300 : 0)) <= 4, true);
            }
        }
    }
}
