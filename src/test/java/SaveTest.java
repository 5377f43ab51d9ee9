import java.util.Random;

/** Promise 6: pictures saved by the scripts, with the best words. */
public final class SaveTest {
    public static void main(String[] args) {
        refusals();
        aWholeFile();
        severalTables();
        aProgressiveFile();
        scansOfEach();
        longWords();
        runsWithManyBits();
        tooLong();
        thereAndBack();
        Check.end();
    }

    private static void refusals() {
        WavePictures x = new WavePictures();
        for (int script = 0; script < 3; script++) {
            Check.due("no picture", x.saveAs(script, 0), -1);
        }
        x.paintFrom(1, 1, 1, 0, 100);
        int[][] wrong = {{-1, 0}, {3, 0}, {0, -1}, {0, 65536}, {Integer.MAX_VALUE, 0}, {0, Integer.MIN_VALUE}};
        for (int[] w : wrong) {
            Check.due("saveAs(" + w[0] + ", " + w[1] + ")", x.saveAs(w[0], w[1]), -1);
        }
        Check.due("no output", x.statusOf(3), 0);
        Check.due("an interval", x.saveAs(0, 65535), 138 + 6);
    }

    private static void bytes(String what, WavePictures x, int from, int... want) {
        for (int k = 0; k < want.length; k++) {
            Check.due(what + " byte " + (from + k), x.outputAt(from + k), want[k]);
        }
    }

    private static void aWholeFile() {
        WavePictures x = new WavePictures();
        x.canvasSize(0, 17, 8);
        for (int left = 0; left < 17; left += 8) {
            for (int y = 0; y < 8; y++) {
                x.canvasRow(0, left, y, 0x8080808080808080L);
            }
        }
        x.paintFrom(17, 8, 1, 0, 100);
        x.setCoefficient(0, 0, 0, 0, 3);
        x.setCoefficient(0, 1, 0, 0, 3);
        x.setCoefficient(0, 2, 0, 0, -1024);
        x.setCoefficient(0, 1, 0, 18, -5);
        // Direct: sizes 2, 0, 11. All come once, so do the others' 0 (three times), 240 and 16 * 1 + 3.
        int length = x.saveAs(0, 2);
        bytes("frame", x, 71, 255, 192, 0, 11, 8, 0, 8, 0, 17, 1, 1, 17, 0);
        bytes("interval", x, 84, 255, 221, 0, 4, 0, 2);
        // Four places with 1 each (0, 2, 11, 256) are two bits long; 256's word goes. Of the others
        // 19 (1), 240 (1), 0 (3), 256 (1): 256 and 240 join, then these (2) and 19 (1): 3 bits, 2 bits, 1 bit.
        bytes("words", x, 90, 255, 196, 0, 2 + 20 + 20,
            0, 0, 3, 0, 0, 0, 0, 0, 0, 0, 0, 0, 0, 0, 0, 0, 0, 0, 2, 11,
            16, 1, 1, 1, 0, 0, 0, 0, 0, 0, 0, 0, 0, 0, 0, 0, 0, 0, 19, 240);
        bytes("scan", x, 134, 255, 218, 0, 8, 1, 1, 0, 0, 63, 0);
        // 01 11, 0; 00, 110 10 010, 0; filled. Restart. 10 01111111111... -1024 - 0: 11 bits of -1025: 01111111111; 0.
        bytes("data", x, 144, 0b01110001, 0b10100100, 255, 208, 0b10011111, 0b11111011);
        bytes("end", x, 150, 255, 217);
        Check.due("length", length, 152);
    }

    private static void severalTables() {
        WavePictures x = new WavePictures();
        x.paintFrom(1, 1, 3, 0x03, 5000);
        int length = x.saveAs(0, 0);
        // One segment of quantisers with three tables, one of words with three and three.
        bytes("quantisers", x, 2, 255, 219, 0, 2 + 3 * 65, 0, 255);
        bytes("second table", x, 6 + 65, 1, 255);
        bytes("third table", x, 6 + 130, 2, 255);
        bytes("frame", x, 201, 255, 192, 0, 17, 8, 0, 1, 0, 1, 3, 1, 34, 0, 2, 17, 1, 3, 17, 2);
        bytes("words", x, 220, 255, 196, 0, 2 + 19 + 2 * 18 + 3 * 18);
        int at = 224;
        int[] names = {0, 1, 2, 16, 17, 18};
        for (int name : names) {
            Check.due("name of a table", x.outputAt(at), name);
            int many = 0;
            for (int k = 1; k <= 16; k++) {
                many += x.outputAt(at + k);
            }
            at += 17 + many;
        }
        bytes("scan", x, at, 255, 218, 0, 12, 3, 1, 0, 2, 17, 3, 34, 0, 63, 0);
        Check.due("the end", x.outputAt(length - 1), 217);
        x.takeOutput();
        x.openInput();
        Check.due("segments", x.statusOf(5), 4);
        Check.due("scans", x.statusOf(4), 1);
        x.saveAs(1, 0);
        x.takeOutput();
        x.openInput();
        Check.due("segments of each", x.statusOf(5), 8);
        Check.due("scans of each", x.statusOf(4), 3);
    }

    private static void aProgressiveFile() {
        WavePictures x = new WavePictures();
        x.paintFrom(8, 8, 1, 0, 100);
        Check.due("plane 0 is smaller", x.aboutPicture(0), -1);
        x.canvasSize(0, 8, 8);
        x.paintFrom(8, 8, 1, 0, 100);
        x.setCoefficient(0, 0, 0, 0, -3);
        x.setCoefficient(0, 0, 0, 1, 5);
        x.setCoefficient(0, 0, 0, 2, -1);
        x.setCoefficient(0, 0, 0, 63, 2);
        x.saveAs(2, 0);
        bytes("frame", x, 71, 255, 194, 0, 11, 8, 0, 8, 0, 8, 1, 1, 17, 0);
        // Direct: -3 by 2 is -2, size 2, bits of -3: 01.
        int[] one = {1, 0, 0, 0, 0, 0, 0, 0, 0, 0, 0, 0, 0, 0, 0, 0};
        int at = table(x, 84, 0, one, 2);
        at = row(x, at, 255, 218, 0, 8, 1, 1, 0, 0, 0, 0x01, 0b00111111);
        // 1 .. 5 by 4: 1, then four 0s: the words of 1 and of a run of one; 0 is the shorter one (256 and 1 join).
        at = table(x, at, 16, new int[] {1, 1, 0, 0, 0, 0, 0, 0, 0, 0, 0, 0, 0, 0, 0, 0}, 0, 1);
        at = row(x, at, 255, 218, 0, 8, 1, 1, 0, 1, 5, 0x02, 0b10101111);
        at = table(x, at, 16, one, 0);
        at = row(x, at, 255, 218, 0, 8, 1, 1, 0, 6, 63, 0x02, 0b01111111);
        // By 2: 2, 0, .., 1 at the end: 61 are 0 ahead of it; 240 three times, with the bit of 2 behind the first one.
        at = table(x, at, 16, new int[] {1, 1, 0, 0, 0, 0, 0, 0, 0, 0, 0, 0, 0, 0, 0, 0}, 240, 209);
        at = row(x, at, 255, 218, 0, 8, 1, 1, 0, 1, 63, 0x21, 0b00001011);
        at = row(x, at, 255, 218, 0, 8, 1, 1, 0, 0, 0, 0x10, 255, 0);
        // By 1: 5 has a bit, 1; -1 comes at once; then 60 are 0, and 2 has a bit, 0, in a run.
        at = table(x, at, 16, new int[] {1, 1, 0, 0, 0, 0, 0, 0, 0, 0, 0, 0, 0, 0, 0, 0}, 0, 1);
        at = row(x, at, 255, 218, 0, 8, 1, 1, 0, 1, 63, 0x10, 0b10010011);
        row(x, at, 255, 217);
        Check.due("length", x.statusOf(3), at + 2);
        x.takeOutput();
        x.openInput();
        Check.due("scans", x.statusOf(4), 6);
        Check.due("segments", x.statusOf(5), 2 + 6 + 5);
    }

    private static int row(WavePictures x, int at, int... want) {
        bytes("progressive", x, at, want);
        return at + want.length;
    }

    /** A segment with one table. */
    private static int table(WavePictures x, int at, int name, int[] counts, int... symbols) {
        int next = row(x, at, 255, 196, 0, 19 + symbols.length, name);
        return row(x, row(x, next, counts), symbols);
    }

    private static void scansOfEach() {
        int[] shapes = {0x00, 0x03, 0x0f, 0x2f, 0x3f, 0x1f, 0xff, 0x7f};
        int[] manies = {4, 3, 3, 3, 3, 3, 4, 4};
        // Sums of H * V: 4, 6, 9, 10, 12, 10, 16, 14.
        boolean[] together = {true, true, true, true, false, true, false, false};
        for (int k = 0; k < shapes.length; k++) {
            WavePictures x = new WavePictures();
            x.paintFrom(1, 1, manies[k], shapes[k], 100);
            for (int script = 0; script < 3; script++) {
                x.saveAs(script, 0);
                x.takeOutput();
                Check.due("open", x.openInput(), 0);
                int all = together[k] ? 1 : manies[k];
                int scans = script == 0 ? all : script == 1 ? manies[k] : 2 * all + 4 * manies[k];
                Check.due("scans of shape " + shapes[k] + " by script " + script, x.statusOf(4), scans);
            }
        }
    }

    /**
     * Numbers like Fibonacci's, the rarer symbols being the greater ones, make words of 1, 2, 3, .. 16 bits.
     * Longer ones do not come of a picture: one component has at most 4032 coefficients beside its direct ones,
     * and a word of 17 bits needs 4181 places.
     */
    private static void longWords() {
        int[] symbols = {1, 2, 3, 4, 5, 6, 7, 8, 9, 10, 17, 18, 19, 20, 21, 22};
        int[] often = {1030, 610, 377, 233, 144, 89, 55, 34, 21, 13, 8, 5, 3, 2, 1, 1};
        WavePictures x = new WavePictures();
        Parts.give(x, Parts.join(Parts.START, Parts.quantiser(0, 1), Parts.words(0, 0), Parts.words(16, 0),
            Parts.frame(192, 48, 56, 1, 17, 0), Parts.scan(0, 63, 0, 1, 0), new int[10], new int[] {0x0f}, Parts.END));
        Check.due("open", x.openInput(), 0);
        int at = 0;
        // All 42 blocks are full, so that there is no word for a block's end.
        for (int n = 15; n >= 0; n--) {
            for (int t = 0; t < often[n]; t++) {
                at += symbols[n] / 16;
                int block = at / 63;
                x.setCoefficient(0, block % 7, block / 7, 1 + at % 63, 1 << symbols[n] % 16 - 1);
                at++;
            }
        }
        Check.due("all are full", at, 42 * 63);
        int length = x.saveAs(0, 0);
        int[] ones = {1, 1, 1, 1, 1, 1, 1, 1, 1, 1, 1, 1, 1, 1, 1, 1};
        bytes("direct words", x, 84, 255, 196, 0, 2 + 18 + 33, 0, 1);
        bytes("counts", x, 106, 16);
        bytes("counts", x, 107, ones);
        bytes("symbols", x, 123, symbols);
        int amounts = x.aboutPicture(5);
        x.takeOutput();
        Check.due("taken", x.statusOf(0), length);
        Check.due("opens", x.openInput(), 0);
        Check.due("the same", x.aboutPicture(5), amounts);
    }

    /** A run of refined blocks is sent when it has more than 900 bits, and not when it has just these. */
    private static void runsWithManyBits() {
        Pair pair = new Pair("runs with many bits");
        pair.giveBytes(Parts.join(Parts.START, Parts.quantiser(0, 1), Parts.words(0, 0), Parts.words(16, 0),
            Parts.frame(192, 24, 64, 1, 17, 0), Parts.scan(0, 63, 0, 1, 0), new int[6], Parts.END));
        Check.due("open", pair.openInput(), 0);
        // Fourteen blocks with 63 bits each and one with 18 have 900; the next one makes it 963, of sixteen blocks.
        for (int block = 0; block < 24; block++) {
            for (int k = 1; k < (block == 14 ? 19 : 64); k++) {
                pair.setCoefficient(0, block % 8, block / 8, k, 4 + (block + k) % 3);
            }
        }
        int length = pair.saveAs(2, 0);
        pair.compareOutput();
        // The last table: 16 * 4 for a run of 16 and 16 * 3 for one of 8, each of which comes once.
        int at = length - 1;
        while (pair.x.outputAt(at) != 255 || pair.x.outputAt(at + 1) != 196) {
            at--;
        }
        bytes("the last table", pair.x, at + 4, 16, 1, 1, 0);
        bytes("its symbols", pair.x, at + 21, 48, 64);
    }

    private static void tooLong() {
        Random random = new Random(5);
        WavePictures x = new WavePictures();
        x.paintFrom(1, 1, 1, 0, 100);
        int before = x.saveAs(0, 0);
        int[] head = Parts.join(Parts.START, Parts.quantiser(0, 1), Parts.words(0, 0), Parts.words(16, 0));
        Parts.give(x, Parts.join(head, Parts.frame(192, 48, 64, 1, 17, 0, 2, 17, 0, 3, 17, 0, 4, 17, 0),
            Parts.scan(0, 63, 0, 1, 0, 2, 0, 3, 0, 4, 0), new int[48], Parts.END));
        Check.due("open", x.openInput(), 0);
        for (int c = 0; c < 4; c++) {
            for (int b = 0; b < 48; b++) {
                for (int k = 0; k < 64; k++) {
                    x.setCoefficient(c, b % 8, b / 8, k, random.nextInt(2047) - 1023);
                }
            }
        }
        for (int script = 0; script < 3; script++) {
            Check.due("too long", x.saveAs(script, 1), -1);
            Check.due("the output stays", x.statusOf(3), before);
            Check.due("its bytes stay", x.outputAt(before - 1), 217);
            Check.due("its bytes stay", x.outputAt(81), 1);
        }
        // Fewer and fewer coefficients: the first file that fits is the model's first one, too.
        Pair pair = new Pair("just fits");
        pair.giveBytes(Parts.join(head, Parts.frame(192, 48, 64, 1, 17, 0, 2, 17, 0, 3, 17, 0, 4, 17, 0),
            Parts.scan(0, 63, 0, 1, 0, 2, 0, 3, 0, 4, 0), new int[48], Parts.END));
        pair.openInput();
        for (int n = 0; n < 192 * 63; n++) {
            setNth(pair, n, random.nextInt(2047) - 1023);
        }
        Check.due("too long at first", pair.saveAs(0, 0), -1);
        int gone = 0;
        while (gone < 192 * 63 && pair.x.saveAs(0, 0) < 0) {
            setNth(pair, gone++, 0);
        }
        int length = pair.saveAs(0, 0);
        Check.due("fits in the end", length > 16350 && length <= 16384, true);
        setNth(pair, gone - 1, 1023);
        setNth(pair, gone - 2, 1023);
        Check.due("does not with more", pair.saveAs(0, 0), -1);
        Check.due("the output is the last that fitted", pair.x.statusOf(3), length);
    }

    private static void setNth(Pair pair, int n, int value) {
        int block = n % 48;
        pair.setCoefficient(n / 48 % 4, block % 8, block / 8, 1 + n / 192, value);
    }

    /** What is opened again is the same, but for blocks that no scan of one component goes over. */
    private static void thereAndBack() {
        for (int round = 0; round < 60; round++) {
            Random random = new Random(round);
            int[] file = new FileMaker(random, 40).make();
            Pair pair = new Pair("there and back " + round);
            pair.giveBytes(file.length <= 16384 ? file : new int[1]);
            pair.openInput();
            int amounts = pair.x.aboutPicture(5);
            boolean whole = pair.x.aboutPicture(0) % 16 == 0 && pair.x.aboutPicture(1) % 16 == 0;
            for (int script = 0; script < 3; script++) {
                if (pair.saveAs(script, random.nextInt(3)) > 0) {
                    pair.compareOutput();
                    pair.takeOutput();
                    Check.due("opens", pair.openInput(), 0);
                    pair.comparePicture();
                    if (whole || script == 0 && pair.x.statusOf(4) == 1 && pair.x.aboutPicture(2) > 1) {
                        Check.due("the same amounts", pair.x.aboutPicture(5), amounts);
                    }
                }
            }
        }
    }
}
