/** A WavePictures and a Model that get the same calls; every answer of both is compared. */
final class Pair {
    final WavePictures x = new WavePictures();
    final Model m = new Model();
    private final String name;

    Pair(String name) {
        this.name = name;
    }

    private long same(String call, long got, long want) {
        Check.due(name + ": " + call, got, want);
        return want;
    }

    private boolean same(String call, boolean got, boolean want) {
        Check.due(name + ": " + call, got, want);
        return want;
    }

    boolean giveInput(long v, int n) {
        return same("giveInput(" + v + ", " + n + ")", x.giveInput(v, n), m.giveInput(v, n));
    }

    void wipeInput() {
        x.wipeInput();
        m.wipeInput();
    }

    void giveBytes(int[] bytes) {
        wipeInput();
        for (int k = 0; k < bytes.length; k += 8) {
            int n = Math.min(8, bytes.length - k);
            long v = 0;
            for (int b = 0; b < n; b++) {
                v = v << 8 | bytes[k + b];
            }
            giveInput(v, n);
        }
    }

    void takeOutput() {
        x.takeOutput();
        m.takeOutput();
    }

    int openInput() {
        int got = x.openInput();
        int want = m.openInput();
        same("openInput()", got, want);
        same("place of fault " + want, x.statusOf(2), m.statusOf(2));
        return want;
    }

    int saveAs(int script, int interval) {
        return (int) same("saveAs(" + script + ", " + interval + ")",
            x.saveAs(script, interval), m.saveAs(script, interval));
    }

    boolean paintFrom(int w, int h, int many, int shape, int percent) {
        String call = "paintFrom(" + w + ", " + h + ", " + many + ", " + shape + ", " + percent + ")";
        return same(call, x.paintFrom(w, h, many, shape, percent), m.paintFrom(w, h, many, shape, percent));
    }

    boolean showAt(int n, boolean triangles) {
        return same("showAt(" + n + ", " + triangles + ")", x.showAt(n, triangles), m.showAt(n, triangles));
    }

    boolean turnBy(int kind) {
        return same("turnBy(" + kind + ")", x.turnBy(kind), m.turnBy(kind));
    }

    boolean cropTo(int left, int top, int w, int h) {
        String call = "cropTo(" + left + ", " + top + ", " + w + ", " + h + ")";
        return same(call, x.cropTo(left, top, w, h), m.cropTo(left, top, w, h));
    }

    boolean setCoefficient(int c, int bx, int by, int k, int v) {
        String call = "setCoefficient(" + c + ", " + bx + ", " + by + ", " + k + ", " + v + ")";
        return same(call, x.setCoefficient(c, bx, by, k, v), m.setCoefficient(c, bx, by, k, v));
    }

    boolean canvasSize(int p, int w, int h) {
        return same("canvasSize(" + p + ", " + w + ", " + h + ")", x.canvasSize(p, w, h), m.canvasSize(p, w, h));
    }

    boolean canvasRow(int p, int left, int y, long eight) {
        String call = "canvasRow(" + p + ", " + left + ", " + y + ", " + eight + ")";
        return same(call, x.canvasRow(p, left, y, eight), m.canvasRow(p, left, y, eight));
    }

    boolean mixCanvas(int which) {
        return same("mixCanvas(" + which + ")", x.mixCanvas(which), m.mixCanvas(which));
    }

    /** All that can be asked of the picture. */
    void comparePicture() {
        for (int w = -1; w < 26; w++) {
            same("aboutPicture(" + w + ")", x.aboutPicture(w), m.aboutPicture(w));
        }
        int many = Math.max(0, m.aboutPicture(2));
        for (int c = -1; c <= many; c++) {
            for (int k = -1; k <= 64; k++) {
                same("stepAt(" + c + ", " + k + ")", x.stepAt(c, k), m.stepAt(c, k));
            }
            int across = m.aboutPicture(8 + 4 * Math.max(0, c) + 2);
            int down = m.aboutPicture(8 + 4 * Math.max(0, c) + 3);
            for (int by = -1; by <= down; by++) {
                for (int bx = -1; bx <= across; bx++) {
                    for (int k = -1; k <= 64; k++) {
                        same("coefficientAt(" + c + ", " + bx + ", " + by + ", " + k + ")",
                            x.coefficientAt(c, bx, by, k), m.coefficientAt(c, bx, by, k));
                    }
                }
            }
        }
    }

    void compareCanvas() {
        for (int p = -1; p <= 4; p++) {
            for (int y = -1; y <= 33; y++) {
                for (int left = -9; left < 34; left += 3) {
                    same("canvasEight(" + p + ", " + left + ", " + y + ")",
                        x.canvasEight(p, left, y), m.canvasEight(p, left, y));
                }
            }
        }
    }

    void compareOutput() {
        for (int k = -1; k <= m.statusOf(3); k++) {
            same("outputAt(" + k + ")", x.outputAt(k), m.outputAt(k));
        }
    }

    void compareStatus() {
        for (int w = -1; w < 18; w++) {
            same("statusOf(" + w + ")", x.statusOf(w), m.statusOf(w));
        }
    }

    void compareAll() {
        compareStatus();
        comparePicture();
        compareCanvas();
        compareOutput();
    }
}
