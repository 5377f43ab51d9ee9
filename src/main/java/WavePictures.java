import java.util.Arrays;

/**
 * Pictures in files of markers, segments and scans of code words: opened, saved, turned, cropped,
 * shown as samples and painted from samples, by whole numbers alone.
 *
 * Everything that is large is made once, with the object, and used again by every call.
 */
public final class WavePictures {
    public static final int NONE = -1;

    private static final int MOST_BYTES = 16384;
    private static final int MOST_BLOCKS = 192;
    private static final int MOST_COMPONENTS = 4;
    private static final int MOST_PARTS = 10;
    private static final int SIDE = 32;

    /** Codes of markers. */
    private static final int SEQUENTIAL = 192;
    private static final int PROGRESSIVE = 194;
    private static final int WORDS = 196;
    private static final int FIRST_RESTART = 208;
    private static final int LAST_RESTART = 215;
    private static final int BEGINNING = 216;
    private static final int END = 217;
    private static final int SCAN = 218;
    private static final int QUANTISERS = 219;
    private static final int LINES = 220;
    private static final int INTERVAL = 221;
    private static final int REMARK = 254;

    /** The place 8 * v + u of coefficient k. */
    private static final int[] ZIGZAG = {
        0, 1, 8, 16, 9, 2, 3, 10, 17, 24, 32, 25, 18, 11, 4, 5,
        12, 19, 26, 33, 40, 48, 41, 34, 27, 20, 13, 6, 7, 14, 21, 28,
        35, 42, 49, 56, 57, 50, 43, 36, 29, 22, 15, 23, 30, 37, 44, 51,
        58, 59, 52, 45, 38, 31, 39, 46, 53, 60, 61, 54, 47, 55, 62, 63};

    /** The number of the coefficient at (u, v), if k is that at (v, u). */
    private static final int[] TRANSPOSED = {
        0, 2, 1, 5, 4, 3, 9, 8, 7, 6, 14, 13, 12, 11, 10, 20,
        19, 18, 17, 16, 15, 27, 26, 25, 24, 23, 22, 21, 35, 34, 33, 32,
        31, 30, 29, 28, 42, 41, 40, 39, 38, 37, 36, 48, 47, 46, 45, 44,
        43, 53, 52, 51, 50, 49, 57, 56, 55, 54, 60, 59, 58, 62, 61, 63};

    /** A quarter of a wave, in sixteenths of half a turn. */
    private static final int[] K = {8192, 8035, 7568, 6811, 5793, 4551, 3135, 1598, 0};

    /** Scripts: rows of 1 (a scan of each component) or 0 (of all), FIRST, LAST, BEFORE, BITS. */
    private static final int[] SCRIPT_TOGETHER = {0, 0, 63, 0, 0};
    private static final int[] SCRIPT_ONE_BY_ONE = {1, 0, 63, 0, 0};
    private static final int[] SCRIPT_PROGRESSIVE = {
        0, 0, 0, 0, 1,
        1, 1, 5, 0, 2,
        1, 6, 63, 0, 2,
        1, 1, 63, 2, 1,
        0, 0, 0, 1, 0,
        1, 1, 63, 1, 0};

    private final Bytes input;
    private Bytes output;
    private Bytes spareOutput;
    private boolean hasPicture;
    private Picture picture;
    private Picture draft;
    private final Plane[] planes;
    private final Plane near;
    private final Plane far;
    private final Waves waves;
    private final SegmentReader file;
    private final ScanReader scanReader;
    private final Saver saver;
    private int fault;
    private int faultPlace;
    private int scans;
    private int segments;
    private int opened;

    public WavePictures() {
        input = new Bytes();
        output = new Bytes();
        spareOutput = new Bytes();
        picture = new Picture();
        draft = new Picture();
        planes = new Plane[4];
        for (int p = 0; p < 4; p++) {
            planes[p] = new Plane();
        }
        near = new Plane();
        far = new Plane();
        waves = new Waves();
        file = new SegmentReader(input, draft);
        scanReader = new ScanReader(input, draft);
        saver = new Saver(spareOutput, picture);
        faultPlace = NONE;
    }

    // ---- input and output ----

    public boolean giveInput(long v, int n) {
        if (n < 1 || n > 8 || input.length + n > MOST_BYTES) {
            return false;
        }
        for (int k = n - 1; k >= 0; k--) {
            input.add((int) (v >> (8 * k)) & 255);
        }
        return true;
    }

    public void wipeInput() {
        input.clear();
    }

    public void takeOutput() {
        input.takeAll(output);
    }

    public int outputAt(int k) {
        return output.at(k);
    }

    // ---- opening and saving ----

    public int openInput() {
        file.begin(draft);
        int told = 0;
        while (told < MOST_BYTES && file.nextScan()) {
            told++;
        }
        if (file.fault != 0) {
            return refuseInput(file.fault, file.place);
        }
        draft.settle();
        if (draft.blocks > MOST_BLOCKS) {
            return refuseInput(9, NONE);
        }
        Arrays.fill(draft.coefficients, 0);
        int toldSegments = file.segments;
        // A second time over the same bytes: so the tables are at each scan what they were there.
        file.beginAgain();
        for (int number = 0; number < told && file.nextScan(); number++) {
            int wrong = file.scan.bits > 9 ? 10 : scanReader.read(draft, file.scan, file.words, file.interval);
            if (wrong != 0) {
                return refuseInput(wrong, number);
            }
        }
        fault = 0;
        faultPlace = NONE;
        scans = told;
        segments = toldSegments;
        opened++;
        takeDraft();
        return 0;
    }

    private int refuseInput(int number, int place) {
        fault = number;
        faultPlace = place;
        return number;
    }

    private void takeDraft() {
        Picture old = picture;
        picture = draft;
        draft = old;
        hasPicture = true;
    }

    public int saveAs(int script, int interval) {
        if (!hasPicture || script < 0 || script > 2 || interval < 0 || interval > 65535) {
            return NONE;
        }
        int[] rows = script == 0 ? SCRIPT_TOGETHER : script == 1 ? SCRIPT_ONE_BY_ONE : SCRIPT_PROGRESSIVE;
        saver.begin(spareOutput, picture, interval);
        saver.tellPicture(script == 2 ? PROGRESSIVE : SEQUENTIAL);
        for (int row = 0; row + 5 <= rows.length; row += 5) {
            saver.setBand(rows[row + 1], rows[row + 2], rows[row + 3], rows[row + 4]);
            if (rows[row] == 0 && saver.canBeTogether()) {
                saver.tellScan(0, picture.many);
            } else {
                for (int c = 0; c < picture.many; c++) {
                    saver.tellScan(c, 1);
                }
            }
        }
        saver.tellMarker(END);
        if (spareOutput.tooMany) {
            return NONE;
        }
        Bytes old = output;
        output = spareOutput;
        spareOutput = old;
        return output.length;
    }

    // ---- samples and pictures ----

    public boolean paintFrom(int w, int h, int many, int shape, int percent) {
        if (w < 1 || w > SIDE || h < 1 || h > SIDE || many < 1 || many > MOST_COMPONENTS
                || percent < 1 || percent > 5000 || shape < 0 || shape >= 1 << (2 * many)) {
            return false;
        }
        for (int c = 0; c < many; c++) {
            if (!planes[c].isOfSize(w, h)) {
                return false;
            }
            draft.h[c] = (shape >> (2 * c) & 1) + 1;
            draft.v[c] = (shape >> (2 * c + 1) & 1) + 1;
        }
        draft.width = w;
        draft.height = h;
        draft.many = many;
        draft.settle();
        if (draft.blocks > MOST_BLOCKS) {
            return false;
        }
        for (int c = 0; c < many; c++) {
            draft.setSteps(c, percent);
            paintComponent(c);
        }
        takeDraft();
        return true;
    }

    private void paintComponent(int c) {
        near.becomeShrunk(planes[c], draft.h[c] < draft.hm, draft.v[c] < draft.vm);
        for (int by = 0; by < draft.down[c]; by++) {
            for (int bx = 0; bx < draft.across[c]; bx++) {
                waves.forward(near, draft, c, bx, by);
            }
        }
    }

    public boolean showAt(int n, boolean triangles) {
        if (!hasPicture || n != 1 && n != 2 && n != 4 && n != 8) {
            return false;
        }
        int w = up(picture.width * n, 8);
        int h = up(picture.height * n, 8);
        if (w > SIDE || h > SIDE) {
            return false;
        }
        for (int c = 0; c < picture.many; c++) {
            showComponent(c, n, triangles);
            planes[c].becomeFirst(near, w, h);
        }
        return true;
    }

    /** The samples of component c, at least as many as are shown, come to the plane near. */
    private void showComponent(int c, int n, boolean triangles) {
        for (int by = 0; by < picture.down[c]; by++) {
            for (int bx = 0; bx < picture.across[c]; bx++) {
                waves.back(picture, c, bx, by, n, near);
            }
        }
        near.w = Math.min(SIDE, up(picture.samplesAcross(c) * n, 8));
        near.h = Math.min(SIDE, up(picture.samplesDown(c) * n, 8));
        if (picture.h[c] < picture.hm) {
            far.becomeGrownAcross(near, triangles);
            near.becomeFirst(far, far.w, far.h);
        }
        if (picture.v[c] < picture.vm) {
            far.becomeGrownDown(near, triangles);
            near.becomeFirst(far, far.w, far.h);
        }
    }

    // ---- turning and cropping ----

    public boolean turnBy(int kind) {
        if (!hasPicture || kind < 0 || kind > 5) {
            return false;
        }
        boolean transpose = kind == 0 || kind == 3 || kind == 5;
        boolean mirror = kind == 1 || kind == 3 || kind == 4;
        boolean flip = kind == 2 || kind == 4 || kind == 5;
        int wholeAcross = picture.width / (8 * picture.hm);
        int wholeDown = picture.height / (8 * picture.vm);
        if (mirror && (transpose ? wholeDown : wholeAcross) == 0
                || flip && (transpose ? wholeAcross : wholeDown) == 0) {
            return false;
        }
        if (transpose) {
            draft.becomeTransposed(picture);
            takeDraft();
        }
        if (mirror || flip) {
            draft.becomeReflected(picture, mirror, flip);
            takeDraft();
        }
        return true;
    }

    public boolean cropTo(int x, int y, int w, int h) {
        if (!hasPicture || w < 1 || h < 1 || x < 0 || y < 0) {
            return false;
        }
        int unitsAcross = picture.unitsAcross();
        int unitsDown = picture.unitsDown();
        if (x >= unitsAcross || w > unitsAcross - x || y >= unitsDown || h > unitsDown - y) {
            return false;
        }
        draft.becomeCropped(picture, x, y, w, h);
        takeDraft();
        return true;
    }

    // ---- looking at the picture and changing it ----

    public boolean setCoefficient(int c, int bx, int by, int k, int v) {
        int block = blockOf(c, bx, by);
        if (block == NONE || k < 0 || k > 63 || v < (k == 0 ? -1024 : -1023) || v > 1023) {
            return false;
        }
        picture.coefficients[64 * block + k] = v;
        return true;
    }

    public int coefficientAt(int c, int bx, int by, int k) {
        int block = blockOf(c, bx, by);
        return block == NONE || k < 0 || k > 63 ? 0 : picture.coefficients[64 * block + k];
    }

    private int blockOf(int c, int bx, int by) {
        return hasPicture && c >= 0 && c < picture.many ? picture.block(c, bx, by) : NONE;
    }

    public int stepAt(int c, int k) {
        if (!hasPicture || c < 0 || c >= picture.many || k < 0 || k > 63) {
            return NONE;
        }
        return picture.steps[64 * c + k];
    }

    public int aboutPicture(int w) {
        if (!hasPicture) {
            return NONE;
        }
        switch (w) {
            case 0: return picture.width;
            case 1: return picture.height;
            case 2: return picture.many;
            case 3: return picture.blocks;
            case 4: return picture.countOthersThanZero();
            case 5: return picture.sumOfAmounts();
            default: return aboutComponent(w - 8);
        }
    }

    private int aboutComponent(int w) {
        if (w < 0 || w >= 4 * picture.many) {
            return NONE;
        }
        int c = w / 4;
        switch (w % 4) {
            case 0: return picture.h[c];
            case 1: return picture.v[c];
            case 2: return picture.across[c];
            default: return picture.down[c];
        }
    }

    // ---- the canvas ----

    public boolean canvasSize(int plane, int w, int h) {
        if (plane < 0 || plane > 3 || w < 1 || w > SIDE || h < 1 || h > SIDE) {
            return false;
        }
        planes[plane].setSize(w, h);
        return true;
    }

    public boolean canvasRow(int plane, int x, int y, long eight) {
        if (plane < 0 || plane > 3 || x < 0 || x >= planes[plane].w || y < 0 || y >= planes[plane].h) {
            return false;
        }
        int many = Math.min(8, planes[plane].w - x);
        for (int k = 0; k < many; k++) {
            planes[plane].samples[SIDE * y + x + k] = (int) (eight >> (56 - 8 * k)) & 255;
        }
        return true;
    }

    public long canvasEight(int plane, int x, int y) {
        if (plane < 0 || plane > 3 || x < -7 || x >= planes[plane].w || y < 0 || y >= planes[plane].h) {
            return 0;
        }
        long eight = 0;
        for (int k = x; k < x + 8; k++) {
            boolean there = k >= 0 && k < planes[plane].w;
            eight = eight << 8 | (there ? planes[plane].samples[SIDE * y + k] : 0);
        }
        return eight;
    }

    public boolean mixCanvas(int which) {
        if (which < 0 || which > 6) {
            return false;
        }
        int w = planes[0].w;
        int h = planes[0].h;
        if (!planes[1].isOfSize(w, h) || !planes[2].isOfSize(w, h) || which == 3 && !planes[3].isOfSize(w, h)) {
            return false;
        }
        for (int y = 0; y < h; y++) {
            for (int x = 0; x < w; x++) {
                mixPlace(which, SIDE * y + x);
            }
        }
        return true;
    }

    private void mixPlace(int which, int at) {
        switch (which) {
            case 0:
                openMix(at);
                break;
            case 1:
                closeMix(at);
                break;
            case 2:
                invertMix(at);
                break;
            case 3:
                darkenMix(at);
                break;
            case 4:
                int grey = greyAt(at);
                setMix(at, grey, grey, grey);
                break;
            case 5:
                openMix(at);
                invertMix(at);
                break;
            default:
                invertMix(at);
                closeMix(at);
                break;
        }
    }

    private void setMix(int at, int a, int b, int c) {
        planes[0].samples[at] = a;
        planes[1].samples[at] = b;
        planes[2].samples[at] = c;
    }

    private void openMix(int at) {
        int a = planes[0].samples[at];
        int p = planes[1].samples[at] - 128;
        int q = planes[2].samples[at] - 128;
        setMix(at,
            limit(a + (91881 * q + 32768 >> 16)),
            limit(a + (-22554 * p - 46802 * q + 32768 >> 16)),
            limit(a + (116130 * p + 32768 >> 16)));
    }

    private void closeMix(int at) {
        int a = planes[0].samples[at];
        int b = planes[1].samples[at];
        int c = planes[2].samples[at];
        setMix(at,
            greyAt(at),
            -11059 * a - 21709 * b + 32768 * c + 8421375 >> 16,
            32768 * a - 27439 * b - 5329 * c + 8421375 >> 16);
    }

    private int greyAt(int at) {
        return 19595 * planes[0].samples[at] + 38470 * planes[1].samples[at]
            + 7471 * planes[2].samples[at] + 32768 >> 16;
    }

    private void invertMix(int at) {
        setMix(at, 255 - planes[0].samples[at], 255 - planes[1].samples[at], 255 - planes[2].samples[at]);
    }

    private void darkenMix(int at) {
        int light = 255 - planes[3].samples[at];
        setMix(at,
            (planes[0].samples[at] * light + 127) / 255,
            (planes[1].samples[at] * light + 127) / 255,
            (planes[2].samples[at] * light + 127) / 255);
    }

    // ---- status ----

    public int statusOf(int which) {
        switch (which) {
            case 0: return input.length;
            case 1: return fault;
            case 2: return faultPlace;
            case 3: return output.length;
            case 4: return scans;
            case 5: return segments;
            case 6: return opened;
            default: break;
        }
        if (which < 8 || which > 15) {
            return NONE;
        }
        Plane plane = planes[(which - 8) / 2];
        return which % 2 == 0 ? plane.w : plane.h;
    }

    // ---- what several classes use ----

    /** a by b, up to the next whole number; b is above 0. */
    private static int up(int a, int b) {
        return b < 1 ? 0 : (a + b - 1) / b;
    }

    private static int limit(int v) {
        return Math.max(0, Math.min(255, v));
    }

    /** How many bits the amount of a number has. */
    private static int sizeOf(int number) {
        return 32 - Integer.numberOfLeadingZeros(Math.abs(number));
    }

    /** A row of bytes with room for a whole file. */
    private static final class Bytes {
        final byte[] row = new byte[MOST_BYTES];
        int length;
        boolean tooMany;

        void clear() {
            length = 0;
            tooMany = false;
        }

        void add(int value) {
            if (length >= MOST_BYTES) {
                tooMany = true;
                return;
            }
            row[length] = (byte) value;
            length++;
        }

        void addTwo(int number) {
            add(number >> 8);
            add(number & 255);
        }

        int at(int k) {
            return k < 0 || k >= length ? NONE : row[k] & 255;
        }

        void takeAll(Bytes other) {
            System.arraycopy(other.row, 0, row, 0, other.length);
            length = other.length;
        }
    }

    /** A frame with the coefficients of its blocks, component behind component, and its steps. */
    private static final class Picture {
        int width = 1;
        int height = 1;
        int many;
        int hm = 1;
        int vm = 1;
        int blocks;
        final int[] h = new int[MOST_COMPONENTS];
        final int[] v = new int[MOST_COMPONENTS];
        final int[] across = new int[MOST_COMPONENTS];
        final int[] down = new int[MOST_COMPONENTS];
        final int[] firstBlock = new int[MOST_COMPONENTS];
        final int[] coefficients = new int[64 * MOST_BLOCKS];
        final int[] steps = new int[64 * MOST_COMPONENTS];

        /** Finds what follows from width, height, many, h and v. */
        void settle() {
            hm = 1;
            vm = 1;
            for (int c = 0; c < many; c++) {
                hm = Math.max(hm, h[c]);
                vm = Math.max(vm, v[c]);
            }
            blocks = 0;
            for (int c = 0; c < many; c++) {
                across[c] = h[c] * unitsAcross();
                down[c] = v[c] * unitsDown();
                firstBlock[c] = blocks;
                blocks += across[c] * down[c];
            }
        }

        int unitsAcross() {
            return up(width, 8 * hm);
        }

        int unitsDown() {
            return up(height, 8 * vm);
        }

        int samplesAcross(int c) {
            return up(width * h[c], hm);
        }

        int samplesDown(int c) {
            return up(height * v[c], vm);
        }

        /** The number of a block among all, or NONE if there is none such. */
        int block(int c, int bx, int by) {
            if (bx < 0 || bx >= across[c] || by < 0 || by >= down[c]) {
                return NONE;
            }
            return firstBlock[c] + by * across[c] + bx;
        }

        int countOthersThanZero() {
            int count = 0;
            for (int k = 0; k < 64 * blocks; k++) {
                count += coefficients[k] == 0 ? 0 : 1;
            }
            return count;
        }

        int sumOfAmounts() {
            int sum = 0;
            for (int k = 0; k < 64 * blocks; k++) {
                sum += Math.abs(coefficients[k]);
            }
            return sum;
        }

        void setSteps(int c, int percent) {
            int base = c == 0 ? 16 : 17;
            int slope = c == 0 ? 6 : 10;
            for (int k = 0; k < 64; k++) {
                int waves = ZIGZAG[k] / 8 + ZIGZAG[k] % 8;
                int step = ((base + slope * waves) * percent + 50) / 100;
                steps[64 * c + k] = Math.max(1, Math.min(255, step));
            }
        }

        void becomeTransposed(Picture old) {
            width = old.height;
            height = old.width;
            many = old.many;
            for (int c = 0; c < many; c++) {
                h[c] = old.v[c];
                v[c] = old.h[c];
                for (int k = 0; k < 64; k++) {
                    steps[64 * c + k] = old.steps[64 * c + TRANSPOSED[k]];
                }
            }
            settle();
            for (int c = 0; c < many; c++) {
                for (int b = 0; b < across[c] * down[c]; b++) {
                    int from = 64 * (old.firstBlock[c] + b % across[c] * old.across[c] + b / across[c]);
                    int to = 64 * (firstBlock[c] + b);
                    for (int k = 0; k < 64; k++) {
                        coefficients[to + k] = old.coefficients[from + TRANSPOSED[k]];
                    }
                }
            }
        }

        /** Only whole units can change sides: what is more than these is cut away where it is turned. */
        void becomeReflected(Picture old, boolean mirror, boolean flip) {
            takeFrame(old);
            width = mirror ? old.width / (8 * old.hm) * (8 * old.hm) : old.width;
            height = flip ? old.height / (8 * old.vm) * (8 * old.vm) : old.height;
            settle();
            for (int c = 0; c < many; c++) {
                for (int by = 0; by < down[c]; by++) {
                    for (int bx = 0; bx < across[c]; bx++) {
                        int from = old.block(c, mirror ? across[c] - 1 - bx : bx, flip ? down[c] - 1 - by : by);
                        takeBlock(old, from, block(c, bx, by), mirror, flip);
                    }
                }
            }
        }

        void becomeCropped(Picture old, int x, int y, int w, int tall) {
            takeFrame(old);
            width = Math.min(old.width - x * 8 * old.hm, w * 8 * old.hm);
            height = Math.min(old.height - y * 8 * old.vm, tall * 8 * old.vm);
            settle();
            for (int c = 0; c < many; c++) {
                for (int by = 0; by < down[c]; by++) {
                    for (int bx = 0; bx < across[c]; bx++) {
                        int from = old.block(c, x * h[c] + bx, y * v[c] + by);
                        takeBlock(old, from, block(c, bx, by), false, false);
                    }
                }
            }
        }

        private void takeFrame(Picture old) {
            many = old.many;
            System.arraycopy(old.h, 0, h, 0, MOST_COMPONENTS);
            System.arraycopy(old.v, 0, v, 0, MOST_COMPONENTS);
            System.arraycopy(old.steps, 0, steps, 0, 64 * MOST_COMPONENTS);
        }

        /** A wave that goes across an odd number of times is its own opposite from the other side. */
        private void takeBlock(Picture old, int from, int to, boolean mirror, boolean flip) {
            if (from == NONE || to == NONE) {
                return;
            }
            for (int k = 0; k < 64; k++) {
                int value = old.coefficients[64 * from + k];
                boolean turned = (mirror && ZIGZAG[k] % 2 == 1) != (flip && ZIGZAG[k] / 8 % 2 == 1);
                coefficients[64 * to + k] = turned ? -value : value;
            }
        }
    }

    /** A scan: its components and its band, where its data lie, and its way over a picture's blocks. */
    private static final class Scan {
        int many;
        int first;
        int last;
        int before;
        int bits;
        final int[] component = new int[MOST_COMPONENTS];
        final int[] dcTable = new int[MOST_COMPONENTS];
        final int[] acTable = new int[MOST_COMPONENTS];
        final int[] namePlace = new int[MOST_COMPONENTS];
        int dataFrom;
        int dataTo;
        int units;
        int unitsAcross = 1;
        int parts;
        final int[] partMember = new int[MOST_PARTS];
        final int[] partX = new int[MOST_PARTS];
        final int[] partY = new int[MOST_PARTS];

        boolean isWhole() {
            return first == 0 && last > 0;
        }

        boolean isRefinement() {
            return before > 0;
        }

        /** Finds the units of a picture, and of which blocks each is made. */
        void layOut(Picture picture) {
            parts = 0;
            if (many == 1) {
                unitsAcross = up(picture.samplesAcross(component[0]), 8);
                units = unitsAcross * up(picture.samplesDown(component[0]), 8);
                addPart(0, 0, 0);
                return;
            }
            unitsAcross = picture.unitsAcross();
            units = unitsAcross * picture.unitsDown();
            for (int member = 0; member < many; member++) {
                for (int y = 0; y < picture.v[component[member]]; y++) {
                    for (int x = 0; x < picture.h[component[member]]; x++) {
                        addPart(member, x, y);
                    }
                }
            }
        }

        private void addPart(int member, int x, int y) {
            if (parts < MOST_PARTS) {
                partMember[parts] = member;
                partX[parts] = x;
                partY[parts] = y;
                parts++;
            }
        }

        /** The number, among all of the picture's, of the block that is this part of a unit. */
        int blockAt(Picture picture, int unit, int part) {
            int c = component[partMember[part]];
            int wide = many == 1 ? 1 : picture.h[c];
            int tall = many == 1 ? 1 : picture.v[c];
            int bx = unit % unitsAcross * wide + partX[part];
            int by = unit / unitsAcross * tall + partY[part];
            return picture.firstBlock[c] + by * picture.across[c] + bx;
        }
    }

    /** A table of words to read by; without words (longest is 0) it is not there. */
    private static final class Words {
        final int[] counts = new int[17];
        final int[] firstWord = new int[17];
        final int[] firstPlace = new int[17];
        final int[] symbols = new int[256];
        int longest;
        int lastWord;

        /** Finds the words, when the counts have been told. */
        void settle() {
            int word = 0;
            int place = 0;
            longest = 0;
            for (int length = 1; length <= 16; length++) {
                word *= 2;
                firstWord[length] = word;
                firstPlace[length] = place;
                word += counts[length];
                place += counts[length];
                if (counts[length] > 0) {
                    longest = length;
                    lastWord = word - 1;
                }
            }
        }

        /** As the words leave no gap below the last one, what begins none is above its beginning. */
        boolean begins(int bits, int length) {
            return longest > 0 && length <= longest && bits <= lastWord >> (longest - length);
        }

        /** The symbol whose word these bits are, or NONE. */
        int symbolOf(int bits, int length) {
            int nth = bits - firstWord[length];
            return nth < 0 || nth >= counts[length] ? NONE : symbols[firstPlace[length] + nth];
        }
    }

    /** Reads a file's markers and segments, scan by scan; stops at the first fault. */
    private static final class SegmentReader {
        final Bytes input;
        Picture picture;
        final Scan scan = new Scan();
        final Words[] words = new Words[8];
        int interval;
        int segments;
        int fault;
        int place;
        private int position;
        private int lengthPlace;
        private int end;
        private int kind;
        private boolean withoutHeight;
        private boolean linesDue;
        private int lines;
        private final int[] names = new int[MOST_COMPONENTS];
        private final int[] quantiserOf = new int[MOST_COMPONENTS];
        private final int[] quantisers = new int[64 * 4];
        private final int[] latestBits = new int[64 * MOST_COMPONENTS];
        private final int[] used = new int[256];

        SegmentReader(Bytes input, Picture picture) {
            this.input = input;
            this.picture = picture;
            for (int t = 0; t < 8; t++) {
                words[t] = new Words();
            }
        }

        void begin(Picture draft) {
            picture = draft;
            lines = 0;
            beginAgain();
        }

        /** Back to the first byte; lines that have been told stay known. */
        void beginAgain() {
            interval = 0;
            segments = 0;
            fault = 0;
            place = NONE;
            kind = 0;
            withoutHeight = false;
            linesDue = false;
            picture.many = 0;
            Arrays.fill(quantisers, 0);
            Arrays.fill(latestBits, NONE);
            for (int t = 0; t < 8; t++) {
                words[t].longest = 0;
            }
            position = 2;
            if (input.length == 0) {
                fail(1, 0);
            } else if (input.at(0) != 255) {
                fail(2, 0);
            } else if (input.length == 1) {
                fail(1, 1);
            } else if (input.at(1) != BEGINNING) {
                fail(2, 0);
            }
        }

        /** Reads on up to the end of the next scan's data; false at the file's end or with a fault. */
        boolean nextScan() {
            for (int turn = 0; fault == 0 && turn < MOST_BYTES; turn++) {
                int code = readMarker();
                if (code == NONE || code == END || !readSegment(code)) {
                    return false;
                }
                if (code == SCAN) {
                    return true;
                }
            }
            return false;
        }

        private int fail(int number, int where) {
            fault = number;
            place = where;
            return NONE;
        }

        /** Refuses the byte that was read last. */
        private boolean refuse() {
            fail(6, position - 1);
            return false;
        }

        private int readMarker() {
            if (position < input.length && input.at(position) != 255) {
                return fail(3, position);
            }
            while (position < input.length && input.at(position) == 255) {
                position++;
            }
            if (position >= input.length) {
                return fail(1, input.length);
            }
            int code = input.at(position);
            if (!canStandHere(code)) {
                return fail(4, position);
            }
            position++;
            return code;
        }

        private boolean canStandHere(int code) {
            if (linesDue) {
                return code == LINES;
            }
            switch (code) {
                case SEQUENTIAL:
                case PROGRESSIVE:
                    return kind == 0;
                case SCAN:
                    return kind != 0;
                case END:
                    return kind != 0 && allWereInScans();
                case WORDS:
                case QUANTISERS:
                case INTERVAL:
                case REMARK:
                    return true;
                default:
                    return code >= 224 && code <= 239;
            }
        }

        private boolean allWereInScans() {
            for (int c = 0; c < picture.many; c++) {
                if (latestBits[64 * c] == NONE) {
                    return false;
                }
            }
            return true;
        }

        private boolean readSegment(int code) {
            lengthPlace = position;
            if (position + 1 >= input.length) {
                fail(1, input.length);
                return false;
            }
            int length = 256 * input.at(position) + input.at(position + 1);
            if (length < 2) {
                fail(5, lengthPlace);
                return false;
            }
            end = position + length;
            position += 2;
            segments++;
            switch (code) {
                case QUANTISERS:
                    return readQuantisers();
                case WORDS:
                    return readWordTables();
                case INTERVAL:
                    return readInterval();
                case SEQUENTIAL:
                case PROGRESSIVE:
                    return readFrame(code);
                case SCAN:
                    return readScan();
                case LINES:
                    return readLines();
                default:
                    return passOver();
            }
        }

        private boolean passOver() {
            if (end > input.length) {
                fail(1, input.length);
                return false;
            }
            position = end;
            return true;
        }

        private int contentByte() {
            if (position >= end) {
                return fail(5, lengthPlace);
            }
            if (position >= input.length) {
                return fail(1, input.length);
            }
            position++;
            return input.at(position - 1);
        }

        /** A byte of the contents, or NONE with a fault; 6 if it is out of these bounds. */
        private int byteIn(int least, int most) {
            int value = contentByte();
            if (value != NONE && (value < least || value > most)) {
                return fail(6, position - 1);
            }
            return value;
        }

        /** Likewise a number of two bytes. */
        private int numberIn(int least, int most) {
            int high = contentByte();
            int low = high == NONE ? NONE : contentByte();
            if (low == NONE) {
                return NONE;
            }
            int value = 256 * high + low;
            return value < least || value > most ? fail(6, position - 1) : value;
        }

        private boolean endsHere() {
            if (position != end) {
                fail(5, lengthPlace);
                return false;
            }
            return true;
        }

        private boolean readQuantisers() {
            boolean good = true;
            for (int told = 0; good && told < MOST_BYTES && (told == 0 || position < end); told++) {
                good = readQuantiser();
            }
            return good;
        }

        private boolean readQuantiser() {
            int table = byteIn(0, 3);
            for (int k = 0; k < 64 && fault == 0; k++) {
                int step = byteIn(1, 255);
                if (step != NONE) {
                    quantisers[64 * table + k] = step;
                }
            }
            return fault == 0;
        }

        private boolean readWordTables() {
            boolean good = true;
            for (int told = 0; good && told < MOST_BYTES && (told == 0 || position < end); told++) {
                int name = byteIn(0, 19);
                if (name == NONE) {
                    return false;
                }
                if (name > 3 && name < 16) {
                    return refuse();
                }
                Words table = words[name < 4 ? name : name - 12];
                good = readCounts(table) && readSymbols(table, name < 4 ? 11 : 255);
            }
            return good;
        }

        private boolean readCounts(Words table) {
            int together = 0;
            int word = 0;
            for (int length = 1; length <= 16; length++) {
                int count = contentByte();
                if (count == NONE) {
                    return false;
                }
                together += count;
                word = 2 * word + count;
                if (together > 256 || word >= 1 << length) {
                    return refuse();
                }
                table.counts[length] = count;
            }
            if (together == 0) {
                return refuse();
            }
            table.settle();
            return true;
        }

        private boolean readSymbols(Words table, int most) {
            int many = table.firstPlace[16] + table.counts[16];
            Arrays.fill(used, 0);
            for (int k = 0; k < many; k++) {
                int symbol = byteIn(0, most);
                if (symbol == NONE) {
                    return false;
                }
                if (used[symbol] != 0) {
                    return refuse();
                }
                used[symbol] = 1;
                table.symbols[k] = symbol;
            }
            return true;
        }

        private boolean readInterval() {
            int number = numberIn(0, 65535);
            if (number == NONE) {
                return false;
            }
            interval = number;
            return endsHere();
        }

        private boolean readLines() {
            int number = numberIn(1, 64);
            if (number == NONE) {
                return false;
            }
            lines = number;
            picture.height = number;
            linesDue = false;
            return endsHere();
        }

        private boolean readFrame(int code) {
            if (byteIn(8, 8) == NONE) {
                return false;
            }
            int height = numberIn(0, 64);
            int width = height == NONE ? NONE : numberIn(1, 64);
            int many = width == NONE ? NONE : byteIn(1, MOST_COMPONENTS);
            if (many == NONE) {
                return false;
            }
            for (int c = 0; c < many; c++) {
                if (!readComponent(c)) {
                    return false;
                }
            }
            kind = code;
            withoutHeight = height == 0;
            picture.width = width;
            picture.height = withoutHeight ? lines : height;
            picture.many = many;
            return endsHere();
        }

        private boolean readComponent(int c) {
            int name = contentByte();
            if (name == NONE) {
                return false;
            }
            for (int other = 0; other < c; other++) {
                if (names[other] == name) {
                    return refuse();
                }
            }
            names[c] = name;
            int shape = contentByte();
            if (shape == NONE) {
                return false;
            }
            if (shape != 17 && shape != 18 && shape != 33 && shape != 34) {
                return refuse();
            }
            picture.h[c] = shape / 16;
            picture.v[c] = shape % 16;
            quantiserOf[c] = byteIn(0, 3);
            return fault == 0;
        }

        private boolean readScan() {
            scan.many = byteIn(1, MOST_COMPONENTS);
            if (scan.many == NONE || !readMembers() || !readBand()) {
                return false;
            }
            for (int member = 0; member < scan.many; member++) {
                if (!fitsWhatWasSent(member)) {
                    return false;
                }
            }
            for (int member = 0; member < scan.many; member++) {
                if (!hasItsTables(member)) {
                    return false;
                }
            }
            if (!endsHere()) {
                return false;
            }
            linesDue = withoutHeight && isFirstScan();
            for (int member = 0; member < scan.many; member++) {
                noteAsSent(scan.component[member]);
            }
            return findEndOfData();
        }

        private boolean isFirstScan() {
            for (int c = 0; c < picture.many; c++) {
                if (latestBits[64 * c] != NONE) {
                    return false;
                }
            }
            return true;
        }

        private boolean readMembers() {
            int previous = NONE;
            int together = 0;
            for (int member = 0; member < scan.many; member++) {
                int name = contentByte();
                if (name == NONE) {
                    return false;
                }
                int c = componentNamed(name);
                if (c <= previous) {
                    fail(7, position - 1);
                    return false;
                }
                previous = c;
                // One component alone has at most 4, so this only ever refuses several.
                together += picture.h[c] * picture.v[c];
                if (together > MOST_PARTS) {
                    return refuse();
                }
                scan.component[member] = c;
                scan.namePlace[member] = position - 1;
                int tables = byteIn(0, 51);
                if (tables == NONE) {
                    return false;
                }
                if (tables % 16 > 3) {
                    return refuse();
                }
                scan.dcTable[member] = tables / 16;
                scan.acTable[member] = tables % 16;
            }
            return true;
        }

        private int componentNamed(int name) {
            for (int c = 0; c < picture.many; c++) {
                if (names[c] == name) {
                    return c;
                }
            }
            return NONE;
        }

        private boolean readBand() {
            boolean progressive = kind == PROGRESSIVE;
            int first = byteIn(0, progressive && scan.many == 1 ? 63 : 0);
            if (first == NONE) {
                return false;
            }
            int least = progressive ? first : 63;
            int last = byteIn(least, progressive && first == 0 ? 0 : 63);
            int both = last == NONE ? NONE : byteIn(0, progressive ? 255 : 0);
            if (both == NONE) {
                return false;
            }
            scan.first = first;
            scan.last = last;
            scan.before = both / 16;
            scan.bits = both % 16;
            if (scan.bits > 13 || scan.before != 0 && scan.before != scan.bits + 1) {
                return refuse();
            }
            return true;
        }

        private boolean fitsWhatWasSent(int member) {
            int c = scan.component[member];
            boolean wasSent = latestBits[64 * c] != NONE;
            if (kind == SEQUENTIAL ? wasSent : scan.first > 0 && !wasSent) {
                fail(7, scan.namePlace[member]);
                return false;
            }
            for (int k = scan.first; k <= scan.last; k++) {
                int latest = latestBits[64 * c + k];
                boolean fits = scan.before == 0 ? latest == NONE : latest == scan.before;
                if (!fits) {
                    return refuse();
                }
            }
            return true;
        }

        private boolean hasItsTables(int member) {
            int namePlace = scan.namePlace[member];
            if (quantisers[64 * quantiserOf[scan.component[member]]] == 0) {
                fail(8, namePlace);
                return false;
            }
            boolean needsDc = scan.first == 0 && scan.before == 0;
            boolean needsAc = scan.last > 0;
            if (needsDc && words[scan.dcTable[member]].longest == 0
                    || needsAc && words[4 + scan.acTable[member]].longest == 0) {
                fail(8, namePlace + 1);
                return false;
            }
            return true;
        }

        private void noteAsSent(int c) {
            if (latestBits[64 * c] == NONE) {
                System.arraycopy(quantisers, 64 * quantiserOf[c], picture.steps, 64 * c, 64);
            }
            for (int k = scan.first; k <= scan.last; k++) {
                latestBits[64 * c + k] = scan.bits;
            }
        }

        private boolean findEndOfData() {
            scan.dataFrom = position;
            int restart = FIRST_RESTART;
            while (position + 1 < input.length) {
                int next = input.at(position + 1);
                if (input.at(position) != 255) {
                    position++;
                } else if (next == 0) {
                    position += 2;
                } else if (interval > 0 && next == restart) {
                    restart = restart == LAST_RESTART ? FIRST_RESTART : restart + 1;
                    position += 2;
                } else {
                    scan.dataTo = position;
                    return true;
                }
            }
            fail(1, input.length);
            return false;
        }
    }

    /** Reads the data of a scan into a picture, bit by bit. */
    private static final class ScanReader {
        private final Bytes input;
        private Picture picture;
        private Scan scan = new Scan();
        private int position;
        private int held;
        private int left;
        private int fault;
        private int run;
        private final int[] prediction = new int[MOST_COMPONENTS];

        ScanReader(Bytes input, Picture picture) {
            this.input = input;
            this.picture = picture;
        }

        /** 0, or 10 and the fault of reading. */
        int read(Picture draft, Scan which, Words[] words, int interval) {
            picture = draft;
            scan = which;
            scan.layOut(picture);
            position = scan.dataFrom;
            fault = 0;
            left = 0;
            begin();
            for (int unit = 0; unit < scan.units && fault == 0; unit++) {
                if (interval > 0 && unit > 0 && unit % interval == 0) {
                    passRestart(FIRST_RESTART + (unit / interval - 1) % 8);
                }
                for (int part = 0; part < scan.parts && fault == 0; part++) {
                    int member = scan.partMember[part];
                    int at = 64 * scan.blockAt(picture, unit, part);
                    if (scan.first == 0) {
                        readDirect(at, member, words[scan.dcTable[member]]);
                    }
                    if (scan.last > 0 && scan.isRefinement()) {
                        refineOthers(at, words[4 + scan.acTable[member]]);
                    } else if (scan.last > 0 && fault == 0) {
                        readOthers(at, words[4 + scan.acTable[member]]);
                    }
                }
            }
            if (fault == 0) {
                endBits();
            }
            if (fault == 0 && position != scan.dataTo) {
                fault = 5;
            }
            return fault == 0 ? 0 : 10 + fault;
        }

        private void begin() {
            run = 0;
            Arrays.fill(prediction, 0);
        }

        private void endBits() {
            int filling = (1 << left) - 1;
            if (run > 0 || (held & filling) != filling) {
                fault = 5;
            }
            left = 0;
        }

        private void passRestart(int code) {
            endBits();
            if (position + 2 > scan.dataTo || input.at(position) != 255 || input.at(position + 1) != code) {
                fault = 5;
            }
            position += 2;
            begin();
        }

        private int takeBit() {
            if (left == 0) {
                takeByte();
            }
            if (fault != 0) {
                return NONE;
            }
            left--;
            return held >> left & 1;
        }

        private void takeByte() {
            if (position >= scan.dataTo) {
                fault = 1;
                return;
            }
            held = input.row[position] & 255;
            // In the data of a file only 0 and a restart stand behind 255, and the bits end there.
            if (held == 255 && (position + 1 >= scan.dataTo || input.row[position + 1] != 0)) {
                fault = 1;
                return;
            }
            position += held == 255 ? 2 : 1;
            left = 8;
        }

        private int takeBits(int many) {
            int bits = 0;
            for (int k = 0; k < many && fault == 0; k++) {
                bits = 2 * bits + takeBit();
            }
            return bits;
        }

        /** The number of this size whose bits come next. */
        private int takeNumber(int size) {
            int bits = takeBits(size);
            return size == 0 || bits >> (size - 1) == 1 ? bits : bits - (1 << size) + 1;
        }

        private int takeSymbol(Words words) {
            int bits = 0;
            for (int length = 0; length < 16 && words.begins(bits, length); length++) {
                bits = 2 * bits + takeBit();
                if (fault != 0) {
                    return NONE;
                }
                int symbol = words.symbolOf(bits, length + 1);
                if (symbol != NONE) {
                    return symbol;
                }
            }
            fault = 2;
            return NONE;
        }

        private void readDirect(int at, int member, Words words) {
            if (scan.isRefinement()) {
                if (takeBit() == 1) {
                    picture.coefficients[at] |= 1 << scan.bits;
                }
                return;
            }
            int size = takeSymbol(words);
            if (fault == 0 && size > 11) {
                fault = 3;
            }
            if (fault != 0) {
                return;
            }
            int value = prediction[member] + takeNumber(size);
            prediction[member] = value;
            setCoefficientOf(at, 0, value * (1 << scan.bits));
        }

        /** A coefficient that was read in full; with an earlier fault nothing has been read. */
        private void setCoefficientOf(int at, int k, int value) {
            if (fault != 0) {
                return;
            }
            if (value > 1023 || value < (k == 0 ? -1024 : -1023)) {
                fault = 4;
                return;
            }
            picture.coefficients[at + k] = value;
        }

        private void readOthers(int at, Words words) {
            if (run > 0) {
                run--;
                return;
            }
            int k = Math.max(1, scan.first);
            while (k <= scan.last && fault == 0) {
                int symbol = takeSymbol(words);
                if (fault != 0) {
                    return;
                }
                int zeros = symbol / 16;
                int size = symbol % 16;
                if (size == 0 && zeros < 15) {
                    endBlock(zeros);
                    return;
                }
                if (size > 10 || k + zeros > scan.last) {
                    fault = 3;
                    return;
                }
                k += zeros;
                if (size > 0) {
                    setCoefficientOf(at, k, takeNumber(size) * (1 << scan.bits));
                }
                k++;
            }
        }

        private void endBlock(int n) {
            if (!scan.isWhole()) {
                startRun(n);
                run--;
            } else if (n > 0) {
                fault = 3;
            }
        }

        private void startRun(int n) {
            run = (1 << n) + takeBits(n);
        }

        private void refineOthers(int at, Words words) {
            int k = scan.first;
            while (run == 0 && k <= scan.last) {
                int symbol = takeSymbol(words);
                int zeros = symbol / 16;
                int size = symbol % 16;
                if (fault == 0 && size > 1) {
                    fault = 3;
                }
                if (fault != 0) {
                    return;
                }
                if (size == 0 && zeros < 15) {
                    startRun(zeros);
                    break;
                }
                int value = size == 0 ? 0 : takeBit() == 1 ? 1 << scan.bits : -(1 << scan.bits);
                k = refineUpTo(at, k, zeros);
                if (fault == 0 && k > scan.last) {
                    fault = 3;
                }
                if (fault != 0) {
                    return;
                }
                picture.coefficients[at + k] = value;
                k++;
            }
            if (run > 0 && fault == 0) {
                refineUpTo(at, k, 64);
                run--;
            }
        }

        /** Goes over coefficients from k on, up to a 0 behind so many others; answers where that is. */
        private int refineUpTo(int at, int k, int zeros) {
            int toPass = zeros;
            int here = k;
            while (here <= scan.last && fault == 0) {
                if (picture.coefficients[at + here] != 0) {
                    refineOne(at + here);
                } else if (toPass == 0) {
                    return here;
                } else {
                    toPass--;
                }
                here++;
            }
            return here;
        }

        private void refineOne(int at) {
            int value = picture.coefficients[at];
            int more = 1 << scan.bits;
            if (takeBit() == 1 && (Math.abs(value) & more) == 0) {
                picture.coefficients[at] = value > 0 ? value + more : value - more;
            }
        }
    }

    /** Counts symbols, and finds the best words for them. */
    private static final class BestTable {
        final int[] often = new int[256];
        final int[] word = new int[256];
        final int[] length = new int[256];
        final int[] counts = new int[258];
        final int[] symbols = new int[256];
        int many;
        private final int[] places = new int[257];
        private final int[] numbers = new int[257];
        private final int[] groups = new int[257];
        private final int[] bits = new int[257];

        void forget() {
            Arrays.fill(often, 0);
        }

        void settle() {
            gatherPlaces();
            for (int k = 0; k < many; k++) {
                joinTwoGroups();
            }
            countLengths();
            shortenLengths();
            putSymbolsInOrder();
            giveWords();
        }

        /** Place 256 is one more than the symbols: its word is the one that is all 1s. */
        private void gatherPlaces() {
            many = 0;
            for (int s = 0; s < 256; s++) {
                if (often[s] > 0) {
                    addPlace(s, often[s]);
                }
            }
            addPlace(256, 1);
            many--;
        }

        private void addPlace(int place, int number) {
            places[many] = place;
            numbers[many] = number;
            groups[many] = many;
            bits[many] = 0;
            many++;
        }

        private void joinTwoGroups() {
            int a = NONE;
            int b = NONE;
            for (int k = 0; k <= many; k++) {
                if (numbers[k] > 0 && (a == NONE || numbers[k] <= numbers[a])) {
                    b = a;
                    a = k;
                } else if (numbers[k] > 0 && (b == NONE || numbers[k] <= numbers[b])) {
                    b = k;
                }
            }
            if (b == NONE) {
                return;
            }
            numbers[a] += numbers[b];
            numbers[b] = 0;
            for (int k = 0; k <= many; k++) {
                if (groups[k] == a || groups[k] == b) {
                    groups[k] = a;
                    bits[k]++;
                }
            }
        }

        private void countLengths() {
            Arrays.fill(counts, 0);
            for (int k = 0; k <= many; k++) {
                counts[bits[k]]++;
            }
        }

        private void shortenLengths() {
            for (int size = 256; size > 16; size--) {
                // Words of the greatest length come in twos, so none is left over.
                while (counts[size] > 1) {
                    int shorter = size - 2;
                    while (shorter > 1 && counts[shorter] == 0) {
                        shorter--;
                    }
                    counts[size] -= 2;
                    counts[size - 1]++;
                    counts[shorter + 1] += 2;
                    counts[shorter]--;
                }
            }
            int longest = 16;
            while (longest > 0 && counts[longest] == 0) {
                longest--;
            }
            counts[longest]--;
        }

        private void putSymbolsInOrder() {
            int done = 0;
            for (int size = 1; size <= 256 && done < many; size++) {
                for (int k = 0; k < many; k++) {
                    if (bits[k] == size) {
                        symbols[done] = places[k];
                        done++;
                    }
                }
            }
        }

        private void giveWords() {
            int next = 0;
            int done = 0;
            for (int size = 1; size <= 16; size++) {
                next *= 2;
                for (int k = 0; k < counts[size] && done < many; k++) {
                    word[symbols[done]] = next;
                    length[symbols[done]] = size;
                    next++;
                    done++;
                }
            }
        }
    }

    /** Writes the data of a scan, or only counts their symbols. */
    private static final class ScanWriter {
        private Bytes out;
        private Picture picture;
        private final Scan scan;
        private final BestTable[] tables;
        private boolean counting;
        private int held;
        private int heldBits;
        private int run;
        private int runBits;
        private final int[] bitsOfRun = new int[1024];
        private int toCome;
        private final int[] bitsToCome = new int[64];
        private final int[] prediction = new int[MOST_COMPONENTS];

        ScanWriter(Scan scan, BestTable[] tables, Bytes out, Picture picture) {
            this.scan = scan;
            this.tables = tables;
            this.out = out;
            this.picture = picture;
        }

        void begin(Bytes target, Picture whole) {
            out = target;
            picture = whole;
        }

        void write(int interval, boolean onlyCount) {
            counting = onlyCount;
            held = 0;
            heldBits = 0;
            Arrays.fill(prediction, 0);
            for (int unit = 0; unit < scan.units; unit++) {
                if (interval > 0 && unit > 0 && unit % interval == 0) {
                    endBits();
                    writeRestart(FIRST_RESTART + (unit / interval - 1) % 8);
                }
                for (int part = 0; part < scan.parts; part++) {
                    int c = scan.component[scan.partMember[part]];
                    int at = 64 * scan.blockAt(picture, unit, part);
                    if (scan.first == 0) {
                        writeDirect(at, c);
                    }
                    if (scan.last > 0 && scan.isRefinement()) {
                        refineOthers(at, tables[4 + c]);
                    } else if (scan.last > 0) {
                        writeOthers(at, tables[4 + c]);
                    }
                }
            }
            endBits();
        }

        /** A run is only ever in a scan of one component, so that its table is the first one's. */
        private void endBits() {
            sendRun(tables[4 + scan.component[0]]);
            if (heldBits > 0) {
                putBits((1 << (8 - heldBits)) - 1, 8 - heldBits);
            }
        }

        private void writeRestart(int code) {
            if (!counting) {
                out.add(255);
                out.add(code);
            }
            Arrays.fill(prediction, 0);
        }

        private void putBits(int value, int many) {
            if (counting) {
                return;
            }
            for (int k = many - 1; k >= 0; k--) {
                held = 2 * held + (value >> k & 1);
                heldBits++;
                if (heldBits == 8) {
                    out.add(held);
                    if (held == 255) {
                        out.add(0);
                    }
                    held = 0;
                    heldBits = 0;
                }
            }
        }

        private void putWord(BestTable table, int symbol) {
            if (counting) {
                table.often[symbol]++;
            } else {
                putBits(table.word[symbol], table.length[symbol]);
            }
        }

        private void putNumber(int number, int size) {
            putBits(number > 0 ? number : number - 1, size);
        }

        private void writeDirect(int at, int c) {
            int value = picture.coefficients[at] >> scan.bits;
            if (scan.isRefinement()) {
                putBits(value, 1);
                return;
            }
            int more = value - prediction[c];
            prediction[c] = value;
            putWord(tables[c], sizeOf(more));
            putNumber(more, sizeOf(more));
        }

        private void writeOthers(int at, BestTable table) {
            int zeros = 0;
            for (int k = Math.max(1, scan.first); k <= scan.last; k++) {
                int value = picture.coefficients[at + k];
                int amount = Math.abs(value) >> scan.bits;
                if (amount == 0) {
                    zeros++;
                } else {
                    sendRun(table);
                    while (zeros > 15) {
                        putWord(table, 240);
                        zeros -= 16;
                    }
                    putWord(table, 16 * zeros + sizeOf(amount));
                    putNumber(value > 0 ? amount : -amount, sizeOf(amount));
                    zeros = 0;
                }
            }
            if (zeros > 0 && scan.isWhole()) {
                putWord(table, 0);
            } else if (zeros > 0) {
                lengthenRun();
            }
            if (isRunFull()) {
                sendRun(table);
            }
        }

        private int lastNewOne(int at) {
            int k = scan.last;
            while (k >= scan.first && Math.abs(picture.coefficients[at + k]) >> scan.bits != 1) {
                k--;
            }
            return k;
        }

        private void refineOthers(int at, BestTable table) {
            int lastNew = lastNewOne(at);
            int zeros = 0;
            for (int k = scan.first; k <= scan.last; k++) {
                int value = picture.coefficients[at + k];
                int amount = Math.abs(value) >> scan.bits;
                while (amount > 0 && zeros > 15 && k <= lastNew) {
                    sendRun(table);
                    putWord(table, 240);
                    sendBitsToCome();
                    zeros -= 16;
                }
                if (amount == 0) {
                    zeros++;
                } else if (amount > 1) {
                    bitsToCome[toCome] = amount & 1;
                    toCome++;
                } else {
                    sendRun(table);
                    putWord(table, 16 * zeros + 1);
                    putBits(value < 0 ? 0 : 1, 1);
                    sendBitsToCome();
                    zeros = 0;
                }
            }
            if (zeros > 0 || toCome > 0) {
                lengthenRun();
            }
            if (isRunFull()) {
                sendRun(table);
            }
        }

        private void sendBitsToCome() {
            for (int k = 0; k < toCome; k++) {
                putBits(bitsToCome[k], 1);
            }
            toCome = 0;
        }

        private void lengthenRun() {
            run++;
            for (int k = 0; k < toCome; k++) {
                bitsOfRun[runBits] = bitsToCome[k];
                runBits++;
            }
            toCome = 0;
        }

        private boolean isRunFull() {
            return run == 32767 || runBits > 900;
        }

        private void sendRun(BestTable table) {
            if (run == 0) {
                return;
            }
            int n = sizeOf(run) - 1;
            putWord(table, 16 * n);
            putBits(run, n);
            for (int k = 0; k < runBits; k++) {
                putBits(bitsOfRun[k], 1);
            }
            run = 0;
            runBits = 0;
        }
    }

    /** Writes a picture as a file, segment by segment. */
    private static final class Saver {
        private Bytes out;
        private Picture picture;
        private int interval;
        private final Scan scan = new Scan();
        private final BestTable[] tables = new BestTable[8];
        private final ScanWriter writer;

        Saver(Bytes out, Picture picture) {
            this.out = out;
            this.picture = picture;
            for (int t = 0; t < 8; t++) {
                tables[t] = new BestTable();
            }
            writer = new ScanWriter(scan, tables, out, picture);
        }

        void begin(Bytes target, Picture whole, int unitsBetween) {
            out = target;
            picture = whole;
            interval = unitsBetween;
            writer.begin(target, whole);
            out.clear();
            tellMarker(BEGINNING);
        }

        void tellMarker(int code) {
            out.add(255);
            out.add(code);
        }

        private void tellSegment(int code, int contents) {
            tellMarker(code);
            out.addTwo(2 + contents);
        }

        /** All that comes ahead of the scans. */
        void tellPicture(int kind) {
            tellSegment(QUANTISERS, 65 * picture.many);
            for (int c = 0; c < picture.many; c++) {
                out.add(c);
                for (int k = 0; k < 64; k++) {
                    out.add(picture.steps[64 * c + k]);
                }
            }
            tellSegment(kind, 6 + 3 * picture.many);
            out.add(8);
            out.addTwo(picture.height);
            out.addTwo(picture.width);
            out.add(picture.many);
            for (int c = 0; c < picture.many; c++) {
                out.add(c + 1);
                out.add(16 * picture.h[c] + picture.v[c]);
                out.add(c);
            }
            if (interval > 0) {
                tellSegment(INTERVAL, 2);
                out.addTwo(interval);
            }
        }

        void setBand(int first, int last, int before, int bits) {
            scan.first = first;
            scan.last = last;
            scan.before = before;
            scan.bits = bits;
        }

        boolean canBeTogether() {
            int together = 0;
            for (int c = 0; c < picture.many; c++) {
                together += picture.h[c] * picture.v[c];
            }
            return together <= MOST_PARTS;
        }

        /** A scan of so many components from c on. */
        void tellScan(int c, int many) {
            scan.many = many;
            for (int member = 0; member < many; member++) {
                scan.component[member] = c + member;
                tables[c + member].forget();
                tables[4 + c + member].forget();
            }
            scan.layOut(picture);
            writer.write(interval, true);
            tellTables(c, many);
            tellSegment(SCAN, 4 + 2 * many);
            out.add(many);
            for (int member = c; member < c + many; member++) {
                out.add(member + 1);
                out.add(17 * member);
            }
            out.add(scan.first);
            out.add(scan.last);
            out.add(16 * scan.before + scan.bits);
            writer.write(interval, false);
        }

        private void tellTables(int c, int many) {
            boolean direct = scan.first == 0 && scan.before == 0;
            boolean others = scan.last > 0;
            int contents = 0;
            for (int t = c; t < c + many; t++) {
                contents += direct ? sizeOfTable(tables[t]) : 0;
                contents += others ? sizeOfTable(tables[4 + t]) : 0;
            }
            if (contents == 0) {
                return;
            }
            tellSegment(WORDS, contents);
            for (int t = c; t < c + many && direct; t++) {
                tellTable(t, tables[t]);
            }
            for (int t = c; t < c + many && others; t++) {
                tellTable(16 + t, tables[4 + t]);
            }
        }

        private int sizeOfTable(BestTable table) {
            table.settle();
            return 17 + table.many;
        }

        private void tellTable(int name, BestTable table) {
            out.add(name);
            for (int size = 1; size <= 16; size++) {
                out.add(table.counts[size]);
            }
            for (int k = 0; k < table.many; k++) {
                out.add(table.symbols[k]);
            }
        }
    }

    /** Samples, in rows of SIDE. */
    private static final class Plane {
        int w = 1;
        int h = 1;
        final int[] samples = new int[SIDE * SIDE];

        boolean isOfSize(int wide, int high) {
            return w == wide && h == high;
        }

        void setSize(int wide, int high) {
            w = wide;
            h = high;
            Arrays.fill(samples, 0);
        }

        /** The sample at (x, y); beyond the last column or row, that of the last one. */
        int nearest(int x, int y) {
            return samples[SIDE * Math.max(0, Math.min(y, h - 1)) + Math.max(0, Math.min(x, w - 1))];
        }

        void becomeFirst(Plane old, int wide, int high) {
            w = wide;
            h = high;
            System.arraycopy(old.samples, 0, samples, 0, SIDE * SIDE);
        }

        void becomeGrownAcross(Plane old, boolean triangles) {
            w = Math.min(SIDE, 2 * old.w);
            h = old.h;
            for (int y = 0; y < h; y++) {
                for (int x = 0; x < w; x++) {
                    int here = old.nearest(x / 2, y);
                    int beside = old.nearest(x / 2 + (x % 2 == 0 ? -1 : 1), y);
                    samples[SIDE * y + x] = triangles ? 3 * here + beside + 1 + x % 2 >> 2 : here;
                }
            }
        }

        void becomeGrownDown(Plane old, boolean triangles) {
            w = old.w;
            h = Math.min(SIDE, 2 * old.h);
            for (int y = 0; y < h; y++) {
                for (int x = 0; x < w; x++) {
                    int here = old.nearest(x, y / 2);
                    int beside = old.nearest(x, y / 2 + (y % 2 == 0 ? -1 : 1));
                    samples[SIDE * y + x] = triangles ? 3 * here + beside + 1 + y % 2 >> 2 : here;
                }
            }
        }

        void becomeShrunk(Plane old, boolean across, boolean down) {
            w = across ? up(old.w, 2) : old.w;
            h = down ? up(old.h, 2) : old.h;
            for (int y = 0; y < h; y++) {
                for (int x = 0; x < w; x++) {
                    samples[SIDE * y + x] = shrunkAt(old, x, y, across, down);
                }
            }
        }

        private static int shrunkAt(Plane old, int x, int y, boolean across, boolean down) {
            if (across && down) {
                int four = old.nearest(2 * x, 2 * y) + old.nearest(2 * x + 1, 2 * y)
                    + old.nearest(2 * x, 2 * y + 1) + old.nearest(2 * x + 1, 2 * y + 1);
                return four + 1 + x % 2 >> 2;
            }
            if (across) {
                return old.nearest(2 * x, y) + old.nearest(2 * x + 1, y) + x % 2 >> 1;
            }
            if (down) {
                return old.nearest(x, 2 * y) + old.nearest(x, 2 * y + 1) + y % 2 >> 1;
            }
            return old.nearest(x, y);
        }
    }

    /** Samples become coefficients, and coefficients samples. */
    private static final class Waves {
        /** WAVE(n, u, x) at 64 * (the number of n among 1, 2, 4, 8) + 8 * u + x. */
        private final int[] table = new int[256];
        private final long[] given = new long[64];
        private final long[] half = new long[64];

        Waves() {
            for (int s = 0; s < 4; s++) {
                int n = 1 << s;
                for (int u = 0; u < n; u++) {
                    for (int x = 0; x < n; x++) {
                        table[64 * s + 8 * u + x] = u == 0 ? K[4] : cosine((2 * x + 1) * u * (8 / n));
                    }
                }
            }
        }

        private static int cosine(int sixteenths) {
            int m = sixteenths & 31;
            if (m <= 8) {
                return K[m];
            }
            if (m <= 16) {
                return -K[16 - m];
            }
            return m <= 24 ? -K[m - 16] : K[32 - m];
        }

        private static long round(long v, int s) {
            return v + (1L << (s - 1)) >> s;
        }

        /** Block (bx, by) of a component becomes n by n samples, where they lie among all. */
        void back(Picture picture, int c, int bx, int by, int n, Plane plane) {
            int block = picture.block(c, bx, by);
            int shift = n == 8 ? 3 : n / 2;
            if (block == NONE || (bx + 1) * n > SIDE || (by + 1) * n > SIDE) {
                return;
            }
            for (int k = 0; k < 64; k++) {
                given[ZIGZAG[k]] = (long) picture.coefficients[64 * block + k] * picture.steps[64 * c + k];
            }
            for (int y = 0; y < n; y++) {
                for (int u = 0; u < n; u++) {
                    long sum = 0;
                    for (int v = 0; v < n; v++) {
                        sum += table[64 * shift + 8 * v + y] * given[8 * v + u];
                    }
                    half[8 * y + u] = round(sum, 11);
                }
            }
            for (int y = 0; y < n; y++) {
                for (int x = 0; x < n; x++) {
                    long sum = 0;
                    for (int u = 0; u < n; u++) {
                        sum += table[64 * shift + 8 * u + x] * half[8 * y + u];
                    }
                    long sample = Math.max(0, Math.min(255, round(sum, 17) + 128));
                    plane.samples[SIDE * (by * n + y) + bx * n + x] = (int) sample;
                }
            }
        }

        /** The samples of block (bx, by) become its coefficients. */
        void forward(Plane plane, Picture picture, int c, int bx, int by) {
            int block = picture.block(c, bx, by);
            if (block == NONE) {
                return;
            }
            for (int place = 0; place < 64; place++) {
                given[place] = plane.nearest(8 * bx + place % 8, 8 * by + place / 8) - 128;
            }
            for (int v = 0; v < 8; v++) {
                for (int x = 0; x < 8; x++) {
                    long sum = 0;
                    for (int y = 0; y < 8; y++) {
                        sum += table[192 + 8 * v + y] * given[8 * y + x];
                    }
                    half[8 * v + x] = round(sum, 11);
                }
            }
            for (int k = 0; k < 64; k++) {
                int v = ZIGZAG[k] / 8;
                int u = ZIGZAG[k] % 8;
                long sum = 0;
                for (int x = 0; x < 8; x++) {
                    sum += table[192 + 8 * u + x] * half[8 * v + x];
                }
                int value = nearestMultiple((int) round(sum, 17), picture.steps[64 * c + k]);
                picture.coefficients[64 * block + k] = Math.max(k == 0 ? -1024 : -1023, Math.min(1023, value));
            }
        }

        /** value by step, to the nearest; a half goes away from 0. */
        private static int nearestMultiple(int value, int step) {
            if (step < 1) {
                return 0;
            }
            int amount = (2 * Math.abs(value) + step) / (2 * step);
            return value < 0 ? -amount : amount;
        }
    }
}
