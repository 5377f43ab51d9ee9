import java.lang.management.ManagementFactory;
import java.util.Random;

/** All calls of a run share one room: the constructor takes what it needs, the other calls take nothing. */
public final class RoomTest {
    private static final com.sun.management.ThreadMXBean THREADS =
        (com.sun.management.ThreadMXBean) ManagementFactory.getThreadMXBean();

    public static void main(String[] args) {
        long start = taken();
        WavePictures x = new WavePictures();
        long made = taken() - start;
        Check.due("the constructor takes " + made + " bytes", made < 600_000, true);
        int[] file = largeFile();
        calls(x, file, 1);
        start = taken();
        int answered = calls(x, file, 40);
        long more = taken() - start;
        Check.due("calls were made", answered > 1000, true);
        Check.due("all further calls take " + more + " bytes", more < 20_000, true);
        Check.end();
    }

    private static long taken() {
        return THREADS.getThreadAllocatedBytes(Thread.currentThread().getId());
    }

    private static int[] largeFile() {
        for (int seed = 0; ; seed++) {
            int[] file = new FileMaker(new Random(seed), 64).make();
            Model model = new Model();
            model.input = file;
            if (file.length < 16384 && model.openInput() == 0 && model.aboutPicture(3) > 100) {
                return file;
            }
        }
    }

    /** Every call of the face; the sum of what they answer. */
    private static int calls(WavePictures x, int[] file, int rounds) {
        int sum = 0;
        for (int round = 0; round < rounds; round++) {
            Parts.give(x, file);
            sum += x.openInput();
            sum += x.saveAs(round % 3, round);
            x.takeOutput();
            sum += x.openInput();
            sum += x.turnBy(round % 6) ? 1 : 0;
            sum += x.cropTo(0, 0, 1, 1) ? 1 : 0;
            sum += x.showAt(8, true) ? 1 : 0;
            sum += x.setCoefficient(0, 0, 0, 0, 5) ? 1 : 0;
            sum += x.coefficientAt(0, 0, 0, 0) + x.stepAt(0, 0);
            for (int p = 0; p < 4; p++) {
                sum += x.canvasSize(p, 32, 32) ? 1 : 0;
                sum += x.canvasRow(p, 0, 0, round) ? 1 : 0;
                sum += (int) x.canvasEight(p, 0, 0);
            }
            sum += x.mixCanvas(round % 7) ? 1 : 0;
            sum += x.paintFrom(32, 32, 4, 0x03, 50) ? 1 : 0;
            sum += x.saveAs(2, 1);
            sum += x.outputAt(3) + x.aboutPicture(4) + x.statusOf(3);
        }
        return sum;
    }
}
