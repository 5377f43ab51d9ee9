import java.util.ArrayList;
import java.util.List;
import java.util.function.ToLongFunction;

/**
 * A WavePictures that keeps to the 512 calls which the document promises: where an object would be called
 * once more, a new one gets all the calls again that may have changed something, and goes on in its place.
 */
final class Subject {
    static final int MOST_CALLS = 512;
    private final List<ToLongFunction<WavePictures>> story = new ArrayList<>();
    private WavePictures x = new WavePictures();
    private int calls = 0;

    /** Another one to which the same has happened. */
    Subject twin() {
        Subject other = new Subject();
        for (ToLongFunction<WavePictures> call : story) {
            other.tell(call);
        }
        return other;
    }

    /** How many calls that change something there may still be, so that one more can ask what they did. */
    int left() {
        return MOST_CALLS - 1 - story.size();
    }

    private WavePictures ready() {
        if (calls == MOST_CALLS) {
            if (left() < 0) {
                throw new IllegalStateException("the test tells so much that it can ask nothing any more");
            }
            x = new WavePictures();
            for (ToLongFunction<WavePictures> call : story) {
                call.applyAsLong(x);
            }
            calls = story.size();
        }
        calls++;
        return x;
    }

    private long tell(ToLongFunction<WavePictures> call) {
        WavePictures now = ready();
        story.add(call);
        return call.applyAsLong(now);
    }

    private boolean tells(ToLongFunction<WavePictures> call) {
        return tell(call) == 1;
    }

    private static long one(boolean answer) {
        return answer ? 1 : 0;
    }

    boolean giveInput(long v, int n) {
        return tells(w -> one(w.giveInput(v, n)));
    }

    void wipeInput() {
        tell(w -> {
            w.wipeInput();
            return 0;
        });
    }

    void takeOutput() {
        tell(w -> {
            w.takeOutput();
            return 0;
        });
    }

    int openInput() {
        return (int) tell(WavePictures::openInput);
    }

    int saveAs(int script, int interval) {
        return (int) tell(w -> w.saveAs(script, interval));
    }

    boolean paintFrom(int wide, int high, int many, int shape, int percent) {
        return tells(w -> one(w.paintFrom(wide, high, many, shape, percent)));
    }

    boolean showAt(int n, boolean triangles) {
        return tells(w -> one(w.showAt(n, triangles)));
    }

    boolean turnBy(int kind) {
        return tells(w -> one(w.turnBy(kind)));
    }

    boolean cropTo(int left, int top, int wide, int high) {
        return tells(w -> one(w.cropTo(left, top, wide, high)));
    }

    boolean setCoefficient(int c, int bx, int by, int k, int v) {
        return tells(w -> one(w.setCoefficient(c, bx, by, k, v)));
    }

    boolean canvasSize(int plane, int wide, int high) {
        return tells(w -> one(w.canvasSize(plane, wide, high)));
    }

    boolean canvasRow(int plane, int left, int y, long eight) {
        return tells(w -> one(w.canvasRow(plane, left, y, eight)));
    }

    boolean mixCanvas(int which) {
        return tells(w -> one(w.mixCanvas(which)));
    }

    int coefficientAt(int c, int bx, int by, int k) {
        return ready().coefficientAt(c, bx, by, k);
    }

    int stepAt(int c, int k) {
        return ready().stepAt(c, k);
    }

    long canvasEight(int plane, int left, int y) {
        return ready().canvasEight(plane, left, y);
    }

    int outputAt(int k) {
        return ready().outputAt(k);
    }

    int aboutPicture(int w) {
        return ready().aboutPicture(w);
    }

    int statusOf(int which) {
        return ready().statusOf(which);
    }
}
