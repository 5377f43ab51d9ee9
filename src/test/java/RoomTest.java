import java.lang.management.ManagementFactory;

/** All calls of a run live in one room of 7.3 million fields and elements: so do the 512 dearest calls. */
public final class RoomTest {
    private static final com.sun.management.ThreadMXBean THREADS =
        (com.sun.management.ThreadMXBean) ManagementFactory.getThreadMXBean();
    /** As if each took no more than four bytes. */
    private static final long ROOM = 4 * 7_300_000L;

    public static void main(String[] args) {
        run();
        long start = taken();
        int answered = run();
        long all = taken() - start;
        Check.due("calls were made", answered > 1000, true);
        Check.due("a run takes " + all + " bytes", all < ROOM, true);
        Check.end();
    }

    private static long taken() {
        return THREADS.getThreadAllocatedBytes(Thread.currentThread().getId());
    }

    /** The fullest picture that there is, opened, saved, turned, shown and painted over and over again. */
    private static int run() {
        int[] file = Loud.file(52);
        long start = taken();
        WavePictures x = new WavePictures();
        int calls = 0;
        int sum = 0;
        for (int k = 0; k < file.length; k += 8, calls++) {
            long eight = 0;
            for (int b = k; b < k + 8; b++) {
                eight = eight << 8 | (b < file.length ? file[b] : 0);
            }
            x.giveInput(eight, 8);
        }
        for (; calls < 504; calls += 8) {
            sum += x.openInput();
            sum += x.saveAs(calls % 3, calls % 5);
            sum += x.turnBy(calls % 6) ? 1 : 0;
            sum += x.showAt(4, true) ? 1 : 0;
            sum += x.cropTo(0, 0, 1, 1) ? 1 : 0;
            sum += x.paintFrom(32, 24, 4, 0, 50) ? 1 : 0;
            sum += x.mixCanvas(calls % 7) ? 1 : 0;
            sum += x.aboutPicture(5);
        }
        Check.due("the calls alone, without the test's own", taken() - start < ROOM, true);
        return sum;
    }
}
