import java.util.ArrayList;
import java.util.List;
import java.util.function.Consumer;

/** All promises: a call that is refused changes nothing that can be seen. */
public final class RefusedCallsTest {
    public static void main(String[] args) {
        Check.sentence("What answers false, NONE or a fault, or throws, changes nothing.");
        refusedOn("a new object", new Subject());
        refusedOn("an object with all there is", full());
        questionsChangeNothing();
        faultsChangeNothingElse();
        Check.end();
    }

    /** With an input, a picture of 17 by 9, an output and a canvas. */
    private static Subject full() {
        Subject x = new Subject();
        for (int p = 0; p < 4; p++) {
            x.canvasSize(p, 17, 9);
            for (int y = 0; y < 9; y++) {
                x.canvasRow(p, 8 * (y % 2), y, 0x1032547698badcfeL * (y + 3 * p + 1));
            }
        }
        x.paintFrom(17, 9, 2, 0x03, 40);
        x.saveAs(2, 2);
        Parts.give(x, Tiny.FILE);
        x.openInput();
        x.paintFrom(17, 9, 2, 0x03, 40);
        x.setCoefficient(0, 1, 1, 9, -500);
        for (int p = 0; p < 4; p++) {
            x.canvasSize(p, 5 + p, 4);
            x.canvasRow(p, 1, 2, 0x0123456789abcdefL + p);
        }
        return x;
    }

    /** All that can be asked; the input by opening it, on a twin. */
    private static List<Long> seen(Subject x, boolean faultToo) {
        List<Long> all = new ArrayList<>();
        for (int which = 0; which < 16; which++) {
            all.add(which == 1 || which == 2 ? faultToo ? x.statusOf(which) : 0L : (long) x.statusOf(which));
        }
        for (int w = 0; w < 24; w++) {
            all.add((long) x.aboutPicture(w));
        }
        for (int c = 0; c < 4; c++) {
            for (int k = 0; k < 64; k += 3) {
                all.add((long) x.stepAt(c, k));
            }
            for (int block = 0; block < 8; block++) {
                for (int k = 0; k < 64; k += 1 + block % 3) {
                    all.add((long) x.coefficientAt(c, block % 4, block / 4, k));
                }
            }
            for (int y = 0; y < 5; y++) {
                all.add(x.canvasEight(c, 0, y));
                all.add(x.canvasEight(c, 8, y));
            }
        }
        for (int k = 0; k <= x.statusOf(3); k += 5) {
            all.add((long) x.outputAt(k));
        }
        Subject twin = x.twin();
        all.add((long) twin.openInput());
        all.add((long) twin.statusOf(2));
        all.add((long) twin.aboutPicture(0));
        all.add((long) twin.statusOf(5));
        Subject other = x.twin();
        all.add((long) other.saveAs(1, 1));
        all.add((long) other.outputAt(100));
        all.add(other.showAt(4, true) ? 1L : 0L);
        all.add(other.canvasEight(0, 0, 1));
        return all;
    }

    private static void refusedOn(String what, Subject x) {
        List<Long> before = seen(x, true);
        boolean pictured = x.aboutPicture(0) != -1;
        List<Consumer<Subject>> calls = refused(pictured);
        // One by one, and at the end all behind each other.
        Subject all = x.twin();
        for (int k = 0; k < calls.size(); k++) {
            Subject y = x.twin();
            calls.get(k).accept(y);
            calls.get(k).accept(all);
            Check.due(what + ", call " + k + " changed something", !seen(y, true).equals(before), false);
        }
        Check.due(what + ", all calls", seen(all, true).equals(before), true);
    }

    private static void no(boolean answer) {
        Check.due("a refused call", answer, false);
    }

    private static void none(int answer) {
        Check.due("a refused call", answer, -1);
    }

    private static List<Consumer<Subject>> refused(boolean pictured) {
        List<Consumer<Subject>> calls = new ArrayList<>();
        int far = Integer.MAX_VALUE;
        int low = Integer.MIN_VALUE;
        for (int n : new int[] {0, 9, -1, far, low}) {
            calls.add(x -> no(x.giveInput(-1L, n)));
        }
        for (int[] w : new int[][] {{-1, 0}, {3, 0}, {0, -1}, {0, 65536}, {far, far}, {low, low}}) {
            calls.add(x -> none(x.saveAs(w[0], w[1])));
        }
        for (int[] w : new int[][] {{0, 9, 1, 0, 100}, {17, 0, 1, 0, 100}, {33, 9, 1, 0, 100}, {5, 4, 0, 0, 100}, {5, 4, 5, 0, 100},
            {5, 4, 1, 4, 100}, {5, 4, 1, 0, 0}, {5, 4, 1, 0, 5001}, {5, 4, 2, 0, 100}, {4, 5, 1, 0, 100}, {5, 4, 1, -1, 100},
            {far, far, far, far, far}, {low, low, low, low, low}}) {
            calls.add(x -> no(x.paintFrom(w[0], w[1], w[2], w[3], w[4])));
        }
        for (int n : new int[] {0, 3, 16, -1, far, low}) {
            calls.add(x -> no(x.showAt(n, true)));
            calls.add(x -> no(x.turnBy(n == 0 ? -2 : n == 3 ? 6 : n)));
            calls.add(x -> no(x.mixCanvas(n == 0 ? -2 : n == 3 ? 7 : n)));
        }
        for (int[] w : new int[][] {{0, 0, 0, 1}, {0, 0, 1, 0}, {-1, 0, 1, 1}, {0, -1, 1, 1}, {2, 0, 1, 1}, {0, 1, 1, 1}, {0, 0, 3, 1},
            {0, 0, 1, 2}, {far, far, far, far}, {low, low, low, low}, {1, 0, far, 1}}) {
            calls.add(x -> no(x.cropTo(w[0], w[1], w[2], w[3])));
        }
        for (int[] w : new int[][] {{-1, 0, 0, 0, 1}, {4, 0, 0, 0, 1}, {0, -1, 0, 0, 1}, {0, 4, 0, 0, 1}, {0, 0, -1, 0, 1},
            {0, 0, 2, 0, 1}, {0, 0, 0, -1, 1}, {0, 0, 0, 64, 1}, {0, 0, 0, 0, 1024}, {0, 0, 0, 0, -1025}, {0, 0, 0, 1, -1024},
            {1, 2, 0, 0, 1}, {far, far, far, far, far}, {low, low, low, low, low}}) {
            calls.add(x -> no(x.setCoefficient(w[0], w[1], w[2], w[3], w[4])));
        }
        for (int[] w : new int[][] {{-1, 1, 1}, {4, 1, 1}, {0, 0, 1}, {0, 33, 1}, {0, 1, 0}, {0, 1, 33}, {far, far, far}, {low, low, low}}) {
            calls.add(x -> no(x.canvasSize(w[0], w[1], w[2])));
        }
        for (int[] w : new int[][] {{-1, 0, 0}, {4, 0, 0}, {0, -1, 0}, {0, 5, 0}, {0, 0, -1}, {0, 0, 4}, {3, 8, 0}, {far, far, far},
            {low, low, low}}) {
            calls.add(x -> no(x.canvasRow(w[0], w[1], w[2], -1L)));
        }
        if (pictured) {
            // The planes are not of one size; 17 by 9 in units of 16 by 16 has no whole one down.
            for (int which = 0; which < 7; which++) {
                int mix = which;
                calls.add(x -> no(x.mixCanvas(mix)));
            }
            for (int kind = 2; kind < 5; kind++) {
                int turn = kind;
                calls.add(x -> no(x.turnBy(turn)));
            }
        } else {
            for (int kind = 0; kind < 6; kind++) {
                int turn = kind;
                calls.add(x -> no(x.turnBy(turn)));
                calls.add(x -> no(x.showAt(1 << turn % 4, turn % 2 == 0)));
                calls.add(x -> none(x.saveAs(turn % 3, turn)));
            }
            calls.add(x -> no(x.cropTo(0, 0, 1, 1)));
            calls.add(x -> no(x.setCoefficient(0, 0, 0, 0, 1)));
        }
        return calls;
    }

    /** Not by a Subject's story: the questions are asked of one object, twice over. */
    private static void questionsChangeNothing() {
        WavePictures x = new WavePictures();
        x.paintFrom(1, 1, 2, 0x03, 7);
        x.saveAs(0, 0);
        x.takeOutput();
        x.openInput();
        long[] first = new long[240];
        for (int turn = 0; turn < 2; turn++) {
            for (int k = 0; k < first.length; k++) {
                int n = k / 6 - 3;
                long now = k % 6 == 0 ? x.outputAt(n) : k % 6 == 1 ? x.statusOf(n) : k % 6 == 2 ? x.aboutPicture(n)
                    : k % 6 == 3 ? x.coefficientAt(n % 3, n % 2, 0, n) : k % 6 == 4 ? x.stepAt(n % 3, n) : x.canvasEight(n % 4, n, 0);
                if (turn == 1) {
                    Check.due("question " + k + " again", now, first[k]);
                }
                first[k] = now;
            }
        }
    }

    private static void faultsChangeNothingElse() {
        Check.sentence("else the fault (statusOf(1) and (2) tell of it; all else stays).");
        int[] names = {1, 17, 0, 2, 17, 0, 3, 17, 0, 4, 17, 0};
        int[][] files = {{}, {255}, {1}, Parts.join(Tiny.TABLES, Tiny.FRAME, Tiny.SCAN, Tiny.BITS),
            Parts.join(Tiny.TABLES, Tiny.FRAME, Tiny.FRAME), Parts.join(Tiny.S, Tiny.FRAME, Tiny.SCAN),
            Parts.join(Tiny.TABLES, Parts.frame(192, 64, 64, names), Parts.scan(0, 63, 0, 1, 0, 2, 0, 3, 0, 4, 0), Tiny.E),
            Parts.join(Tiny.TABLES, Parts.frame(192, 40, 40, 1, 34, 0), Tiny.SCAN, Parts.data("0".repeat(49) + "1"), Tiny.E),
            Parts.join(Tiny.TABLES, Parts.frame(192, 40, 40, 1, 34, 0), Tiny.SCAN, Tiny.E),
            Parts.join(Tiny.TABLES, Parts.frame(192, 8, 40, 1, 17, 0), Tiny.SCAN, Parts.data("10 1 0".repeat(5), "00000000"), Tiny.E)};
        for (int[] file : files) {
            Subject x = full();
            Parts.give(x, file);
            List<Long> before = seen(x, false);
            Check.due("a fault", x.openInput() > 0, true);
            Check.due("all else stays", seen(x, false).equals(before), true);
        }
    }
}
