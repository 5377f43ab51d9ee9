import java.util.Random;

/** A WavePictures and a Model that get the same calls; every answer of both is compared. */
final class Pair {
    final Subject x = new Subject();
    final Model m = new Model();
    /** About so many questions are asked at once. */
    private static final int MANY = 600;
    private final Random asked;
    private final String name;

    Pair(String name) {
        this.name = name;
        this.asked = new Random(name.hashCode());
    }

    private long same(String call, long got, long want) {
        Check.due(name + ": " + call, got, want);
        return want;
    }

    private boolean same(String call, boolean got, boolean want) {
        Check.due(name + ": " + call, got, want);
        return want;
    }

    boolean giveInput(long v, int n) {
        return same("giveInput(" + v + ", " + n + ")", x.giveInput(v, n), m.giveInput(v, n));
    }

    void wipeInput() {
        x.wipeInput();
        m.wipeInput();
    }

    void giveBytes(int[] bytes) {
        Parts.give(x, bytes);
        m.input = bytes.clone();
        same("bytes of the input", x.statusOf(0), bytes.length);
    }

    void takeOutput() {
        x.takeOutput();
        m.takeOutput();
    }

    int openInput() {
        int got = x.openInput();
        int want = m.openInput();
        same("openInput()", got, want);
        same("place of fault " + want, x.statusOf(2), m.statusOf(2));
        return want;
    }

    int saveAs(int script, int interval) {
        return (int) same("saveAs(" + script + ", " + interval + ")",
            x.saveAs(script, interval), m.saveAs(script, interval));
    }

    boolean paintFrom(int w, int h, int many, int shape, int percent) {
        String call = "paintFrom(" + w + ", " + h + ", " + many + ", " + shape + ", " + percent + ")";
        return same(call, x.paintFrom(w, h, many, shape, percent), m.paintFrom(w, h, many, shape, percent));
    }

    boolean showAt(int n, boolean triangles) {
        return same("showAt(" + n + ", " + triangles + ")", x.showAt(n, triangles), m.showAt(n, triangles));
    }

    boolean turnBy(int kind) {
        return same("turnBy(" + kind + ")", x.turnBy(kind), m.turnBy(kind));
    }

    boolean cropTo(int left, int top, int w, int h) {
        String call = "cropTo(" + left + ", " + top + ", " + w + ", " + h + ")";
        return same(call, x.cropTo(left, top, w, h), m.cropTo(left, top, w, h));
    }

    boolean setCoefficient(int c, int bx, int by, int k, int v) {
        String call = "setCoefficient(" + c + ", " + bx + ", " + by + ", " + k + ", " + v + ")";
        return same(call, x.setCoefficient(c, bx, by, k, v), m.setCoefficient(c, bx, by, k, v));
    }

    boolean canvasSize(int p, int w, int h) {
        return same("canvasSize(" + p + ", " + w + ", " + h + ")", x.canvasSize(p, w, h), m.canvasSize(p, w, h));
    }

    boolean canvasRow(int p, int left, int y, long eight) {
        String call = "canvasRow(" + p + ", " + left + ", " + y + ", " + eight + ")";
        return same(call, x.canvasRow(p, left, y, eight), m.canvasRow(p, left, y, eight));
    }

    boolean mixCanvas(int which) {
        return same("mixCanvas(" + which + ")", x.mixCanvas(which), m.mixCanvas(which));
    }

    /** All that can be asked of the picture; of many coefficients only some, which differ from time to time. */
    void comparePicture() {
        for (int w = -1; w < 26; w++) {
            same("aboutPicture(" + w + ")", x.aboutPicture(w), m.aboutPicture(w));
        }
        int many = Math.max(0, m.aboutPicture(2));
        for (int c = -1; c <= many; c++) {
            for (int k = -1; k <= 64; k += 1 + asked.nextInt(9)) {
                same("stepAt(" + c + ", " + k + ")", x.stepAt(c, k), m.stepAt(c, k));
            }
            int across = m.aboutPicture(8 + 4 * Math.max(0, c) + 2);
            int down = m.aboutPicture(8 + 4 * Math.max(0, c) + 3);
            int far = 1 + Math.max(0, m.aboutPicture(3)) * 65 / MANY;
            for (int by = -1; by <= down; by++) {
                for (int bx = -1; bx <= across; bx++) {
                    for (int k = -1; k <= 64; k += 1 + asked.nextInt(2 * far - 1)) {
                        same("coefficientAt(" + c + ", " + bx + ", " + by + ", " + k + ")",
                            x.coefficientAt(c, bx, by, k), m.coefficientAt(c, bx, by, k));
                    }
                }
            }
        }
    }

    void compareCanvas() {
        for (int p = -1; p <= 4; p++) {
            int w = Math.max(1, m.statusOf(8 + 2 * Math.max(0, p)));
            int h = Math.max(1, m.statusOf(9 + 2 * Math.max(0, p)));
            for (int y = -1; y <= h; y++) {
                for (int left = -8 + asked.nextInt(8); left < w + 8; left += 8) {
                    same("canvasEight(" + p + ", " + left + ", " + y + ")",
                        x.canvasEight(p, left, y), m.canvasEight(p, left, y));
                }
            }
        }
    }

    /** Of many bytes only some. */
    void compareOutput() {
        int length = m.statusOf(3);
        int far = 1 + length / MANY;
        for (int k = -1; k <= length; k += 1 + asked.nextInt(2 * far - 1)) {
            same("outputAt(" + k + ")", x.outputAt(k), m.outputAt(k));
        }
        same("the last byte", x.outputAt(length - 1), m.outputAt(length - 1));
        same("behind it", x.outputAt(length), m.outputAt(length));
    }

    void compareStatus() {
        for (int w = -1; w < 18; w++) {
            same("statusOf(" + w + ")", x.statusOf(w), m.statusOf(w));
        }
    }

    void compareAll() {
        compareStatus();
        comparePicture();
        compareCanvas();
        compareOutput();
    }
}
