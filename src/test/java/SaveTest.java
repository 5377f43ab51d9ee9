import java.util.Random;

/** Promise 6: pictures saved by the scripts: segments, scans, bits, runs and restarts. */
public final class SaveTest {
    public static void main(String[] args) {
        refusals();
        intervalsThatAre();
        tooLong();
        aWholeFile();
        severalTables();
        aProgressiveFile();
        scripts();
        scansOfEach();
        restarts();
        restartsOfUnits();
        predictions();
        bytes255();
        directSizes();
        manyZeros();
        blocksThatAreFull();
        zerosOfABand();
        runsOfABand();
        runsAndRestarts();
        refinedBits();
        refinedZeros();
        runsWithManyBits();
        namesOfComponents();
        blocksThatAreNotItsOwn();
        thereAndBack();
        Check.end();
    }

    /** A picture of so many blocks across, one below another by 64, with steps 1 and coefficients 0. */
    private static Model.Pic blocks(int many) {
        return Parts.plain(8 * Math.min(8, many), many > 8 ? many : 8, 1);
    }

    private static Subject of(Model.Pic pic) {
        return Parts.open("a picture", Parts.fileOf(pic, 0));
    }

    private static int[] save(Subject x, int script, int interval) {
        int length = x.saveAs(script, interval);
        Check.due("as many bytes as there are", x.statusOf(3), length);
        return Parts.outputOf(x);
    }

    private static void refusals() {
        Check.sentence("NONE if there is no PICTURE, no such SCRIPT or INTERVAL, or they would be more than 16384.");
        Subject x = new Subject();
        for (int script = -1; script < 4; script++) {
            Check.due("no picture", x.saveAs(script, 0), -1);
        }
        x.paintFrom(1, 1, 1, 0, 100);
        int[][] wrong = {{-1, 0}, {3, 0}, {4, 0}, {Integer.MAX_VALUE, 0}, {Integer.MIN_VALUE, 0}, {0, -1}, {0, 65536},
            {1, -1}, {1, 65536}, {2, -1}, {2, 65536}, {0, Integer.MAX_VALUE}, {0, Integer.MIN_VALUE}, {0, 65536 + 1},
            {3, 65536}, {256, 0}, {65536, 0}};
        for (int[] w : wrong) {
            Check.due("saveAs(" + w[0] + ", " + w[1] + ")", x.saveAs(w[0], w[1]), -1);
            Check.due("no output", x.statusOf(3), 0);
        }
        Check.due("script 0", x.saveAs(0, 0), 138);
        for (int[] w : wrong) {
            Check.due("saveAs(" + w[0] + ", " + w[1] + ")", x.saveAs(w[0], w[1]), -1);
            Check.due("the output stays", x.statusOf(3), 138);
        }
        Check.due("its bytes stay", x.outputAt(137), 217);
    }

    private static void intervalsThatAre() {
        Check.sentence("The PICTURE is SAVED by SCRIPT 0 .. 2, with an INTERVAL 0 .. 65535 (0: none): that is the OUTPUT; "
            + "how many bytes.");
        Subject x = new Subject();
        x.paintFrom(1, 1, 1, 0, 100);
        for (int script = 0; script < 3; script++) {
            int without = x.saveAs(script, 0);
            Parts.same("no segment", Parts.contents(Parts.outputOf(x), 221, 0));
            for (int interval : new int[] {1, 255, 256, 65535}) {
                Check.due("six bytes more", x.saveAs(script, interval), without + 6);
                Parts.same("interval", Parts.contents(Parts.outputOf(x), 221, 0), interval >> 8, interval & 255);
            }
        }
    }

    private static void tooLong() {
        Check.sentence("or they would be more than 16384.");
        int[][] fits = Loud.changesFor(52, 16384);
        int[][] longer = Loud.changesFor(52, 16385);
        Subject x = new Subject();
        x.paintFrom(1, 1, 1, 0, 100);
        x.saveAs(0, 0);
        Parts.give(x, Loud.file(52));
        Check.due("opens", x.openInput(), 0);
        for (int[] w : longer) {
            Check.due("change", x.setCoefficient(3, w[0], w[1], w[2], w[3]), true);
        }
        Subject y = x.twin();
        Check.due("16385 bytes", x.saveAs(0, 0), -1);
        Check.due("the output stays", x.statusOf(3), 138);
        Parts.output("its bytes stay", x, 136, 255, 217);
        Check.due("an interval more", x.saveAs(0, 1), -1);
        Check.due("each for itself", x.saveAs(1, 0), -1);
        for (int k = longer.length; k < fits.length; k++) {
            y.setCoefficient(3, fits[k][0], fits[k][1], fits[k][2], fits[k][3]);
        }
        Check.due("16384 bytes", y.saveAs(0, 0), 16384);
        Check.due("that is the output", y.statusOf(3), 16384);
        Parts.output("its end", y, 16382, 255, 217, -1);
        Check.due("with an interval it is too long", y.saveAs(0, 65535), -1);
        Check.due("the output stays", y.statusOf(3), 16384);
        y.takeOutput();
        Check.due("it opens", y.openInput(), 0);
        Subject z = Loud.subject(63);
        for (int script = 0; script < 2; script++) {
            Check.due("far too long", z.saveAs(script, 0), -1);
            Check.due("no output", z.statusOf(3), 0);
        }
        z.cropTo(0, 0, 7, 6);
        Check.due("with fewer blocks it fits", z.saveAs(0, 0) > 14000, true);
    }

    private static void aWholeFile() {
        Check.sentence("To SAVE it: 255, 216. One SEGMENT 219 with table c for each component c, the first one first: its STEPS.");
        Subject x = new Subject();
        Canvas.put(x, 0, Canvas.flat(17, 8, 128));
        x.paintFrom(17, 8, 1, 0, 100);
        x.setCoefficient(0, 0, 0, 0, 3);
        x.setCoefficient(0, 1, 0, 0, 3);
        x.setCoefficient(0, 2, 0, 0, -1024);
        x.setCoefficient(0, 1, 0, 18, -5);
        // Direct: sizes 2, 0, 11. All come once, so do the others' 0 (three times), 240 and 16 * 1 + 3.
        int length = x.saveAs(0, 2);
        Parts.output("steps", x, 0, 255, 216, 255, 219, 0, 67, 0, 16, 22, 22, 28, 28, 28, 34);
        Parts.output("frame", x, 71, 255, 192, 0, 11, 8, 0, 8, 0, 17, 1, 1, 17, 0);
        Parts.output("interval", x, 84, 255, 221, 0, 4, 0, 2);
        // Four places with 1 each (0, 2, 11, 256) are two bits long; 256's word goes. Of the others
        // 19 (1), 240 (1), 0 (3), 256 (1): 256 and 240 join, then these (2) and 19 (1): 3 bits, 2 bits, 1 bit.
        Parts.output("words", x, 90, 255, 196, 0, 2 + 20 + 20,
            0, 0, 3, 0, 0, 0, 0, 0, 0, 0, 0, 0, 0, 0, 0, 0, 0, 0, 2, 11,
            16, 1, 1, 1, 0, 0, 0, 0, 0, 0, 0, 0, 0, 0, 0, 0, 0, 0, 19, 240);
        Parts.output("scan", x, 134, 255, 218, 0, 8, 1, 1, 0, 0, 63, 0);
        // 01 11, 0; 00, 110 10 010, 0; filled. Restart. 10 01111111111... -1024 - 0: 11 bits of -1025: 01111111111; 0.
        Parts.output("data", x, 144, 0b01110001, 0b10100100, 255, 208, 0b10011111, 0b11111011);
        Parts.output("end", x, 150, 255, 217);
        Check.due("length", length, 152);
    }

    private static void severalTables() {
        Check.sentence("with the DC tables c (FIRST 0, BEFORE 0), then the AC tables 16 + c (LAST above 0), of its components c,");
        Subject x = new Subject();
        x.paintFrom(1, 1, 3, 0x03, 5000);
        int length = x.saveAs(0, 0);
        // One segment of quantisers with three tables, one of words with three and three.
        Parts.output("quantisers", x, 2, 255, 219, 0, 2 + 3 * 65, 0, 255);
        Parts.output("second table", x, 6 + 65, 1, 255);
        Parts.output("third table", x, 6 + 130, 2, 255);
        Parts.output("frame", x, 201, 255, 192, 0, 17, 8, 0, 1, 0, 1, 3, 1, 34, 0, 2, 17, 1, 3, 17, 2);
        Parts.output("words", x, 220, 255, 196, 0, 2 + 19 + 2 * 18 + 3 * 18);
        int at = 224;
        int[] names = {0, 1, 2, 16, 17, 18};
        for (int name : names) {
            Check.due("name of a table", x.outputAt(at), name);
            int many = 0;
            for (int k = 1; k <= 16; k++) {
                many += x.outputAt(at + k);
            }
            at += 17 + many;
        }
        Parts.output("scan", x, at, 255, 218, 0, 12, 3, 1, 0, 2, 17, 3, 34, 0, 63, 0);
        Check.due("the end", x.outputAt(length - 1), 217);
        int[] each = save(x, 1, 0);
        for (int c = 0; c < 3; c++) {
            int[] words = Parts.contents(each, 196, c);
            Check.due("DC table", words[0], c);
            Check.due("AC table behind it", words[words.length - 18], 16 + c);
            Parts.same("scan", Parts.contents(each, 218, c), 1, c + 1, 17 * c, 0, 63, 0);
        }
        // The four steps of four components are theirs.
        Subject y = new Subject();
        y.paintFrom(1, 1, 4, 0, 100);
        int[] steps = Parts.contents(save(y, 0, 0), 219, 0);
        Check.due("four tables", steps.length, 4 * 65);
        int[] first = {16, 17, 17, 17};
        for (int c = 0; c < 4; c++) {
            Check.due("table " + c, steps[65 * c], c);
            Check.due("its first step", steps[65 * c + 1], first[c]);
        }
    }

    private static void aProgressiveFile() {
        Check.sentence("2, progressive: DIRECT of all, BEFORE 0, BITS 1; BAND 1 .. 5 of each, BEFORE 0, BITS 2; "
            + "BAND 6 .. 63 of each, BEFORE 0, BITS 2; BAND 1 .. 63 of each, BEFORE 2, BITS 1; "
            + "DIRECT of all, BEFORE 1, BITS 0; BAND 1 .. 63 of each, BEFORE 1, BITS 0.");
        Subject x = new Subject();
        x.canvasSize(0, 8, 8);
        x.paintFrom(8, 8, 1, 0, 100);
        x.setCoefficient(0, 0, 0, 0, -3);
        x.setCoefficient(0, 0, 0, 1, 5);
        x.setCoefficient(0, 0, 0, 2, -1);
        x.setCoefficient(0, 0, 0, 63, 2);
        x.saveAs(2, 0);
        Parts.output("frame", x, 71, 255, 194, 0, 11, 8, 0, 8, 0, 8, 1, 1, 17, 0);
        // Direct: -3 by 2 is -2, size 2, bits of -3: 01.
        int[] one = {1, 0, 0, 0, 0, 0, 0, 0, 0, 0, 0, 0, 0, 0, 0, 0};
        int[] two = {1, 1, 0, 0, 0, 0, 0, 0, 0, 0, 0, 0, 0, 0, 0, 0};
        int at = table(x, 84, 0, one, 2);
        at = row(x, at, 255, 218, 0, 8, 1, 1, 0, 0, 0, 0x01, 0b00111111);
        // 1 .. 5 by 4: 1, then four 0s: the words of 1 and of a run of one; 0 is the shorter one (256 and 1 join).
        at = table(x, at, 16, two, 0, 1);
        at = row(x, at, 255, 218, 0, 8, 1, 1, 0, 1, 5, 0x02, 0b10101111);
        at = table(x, at, 16, one, 0);
        at = row(x, at, 255, 218, 0, 8, 1, 1, 0, 6, 63, 0x02, 0b01111111);
        // By 2: 2, 0, .., 1 at the end: 61 are 0 ahead of it; 240 three times, with the bit of 2 behind the first one.
        at = table(x, at, 16, two, 240, 209);
        at = row(x, at, 255, 218, 0, 8, 1, 1, 0, 1, 63, 0x21, 0b00001011);
        at = row(x, at, 255, 218, 0, 8, 1, 1, 0, 0, 0, 0x10, 255, 0);
        // By 1: 5 has a bit, 1; -1 comes at once; then 60 are 0, and 2 has a bit, 0, in a run.
        at = table(x, at, 16, two, 0, 1);
        at = row(x, at, 255, 218, 0, 8, 1, 1, 0, 1, 63, 0x10, 0b10010011);
        row(x, at, 255, 217);
        Check.due("length", x.statusOf(3), at + 2);
        Check.sentence("one SEGMENT 196, if it needs any tables,");
        x.takeOutput();
        x.openInput();
        Check.due("scans", x.statusOf(4), 6);
        Check.due("segments: a direct refinement has no tables", x.statusOf(5), 2 + 6 + 5);
    }

    private static int row(Subject x, int at, int... want) {
        Parts.output("progressive", x, at, want);
        return at + want.length;
    }

    /** A segment with one table. */
    private static int table(Subject x, int at, int name, int[] counts, int... symbols) {
        int next = row(x, at, 255, 196, 0, 19 + symbols.length, name);
        return row(x, row(x, next, counts), symbols);
    }

    private static void scripts() {
        Check.sentence("SCRIPTS: 0: WHOLE of all components. 1: WHOLE of each, the first one first.");
        Subject x = new Subject();
        x.paintFrom(1, 1, 2, 0x03, 100);
        int[] all = save(x, 0, 0);
        Parts.same("all", Parts.contents(all, 218, 0), 2, 1, 0, 2, 17, 0, 63, 0);
        Parts.same("no more", Parts.contents(all, 218, 1));
        int[] each = save(x, 1, 0);
        Parts.same("the first", Parts.contents(each, 218, 0), 1, 1, 0, 0, 63, 0);
        Parts.same("the second", Parts.contents(each, 218, 1), 1, 2, 17, 0, 63, 0);
        Parts.same("no more", Parts.contents(each, 218, 2));
        int[] bands = save(x, 2, 0);
        int[][] want = {{2, 1, 0, 2, 17, 0, 0, 0x01}, {1, 1, 0, 1, 5, 0x02}, {1, 2, 17, 1, 5, 0x02}, {1, 1, 0, 6, 63, 0x02},
            {1, 2, 17, 6, 63, 0x02}, {1, 1, 0, 1, 63, 0x21}, {1, 2, 17, 1, 63, 0x21}, {2, 1, 0, 2, 17, 0, 0, 0x10},
            {1, 1, 0, 1, 63, 0x10}, {1, 2, 17, 1, 63, 0x10}, {}};
        for (int n = 0; n < want.length; n++) {
            Parts.same("scan " + n, Parts.contents(bands, 218, n), want[n]);
        }
    }

    private static void scansOfEach() {
        Check.sentence("Instead of all there is one SCAN of each, if there are several and the sum of their H * V is above 10.");
        int[] shapes = {0x00, 0x03, 0x0f, 0x2f, 0x3f, 0x1f, 0xff, 0x7f, 0x0f, 0x1f, 0x4f, 0x03, 0x0f};
        int[] manies = {4, 3, 3, 3, 3, 3, 4, 4, 4, 4, 4, 1, 2};
        // Sums of H * V: 4, 6, 9, 10, 12, 10, 16, 14, 10, 11, 11, 4, 8.
        boolean[] together = {true, true, true, true, false, true, false, false, true, false, false, true, true};
        for (int k = 0; k < shapes.length; k++) {
            Subject x = new Subject();
            x.paintFrom(1, 1, manies[k], shapes[k], 100);
            for (int script = 0; script < 3; script++) {
                x.saveAs(script, 0);
                x.takeOutput();
                Check.due("open", x.openInput(), 0);
                int all = together[k] ? 1 : manies[k];
                int scans = script == 0 ? all : script == 1 ? manies[k] : 2 * all + 4 * manies[k];
                Check.due("scans of shape " + shapes[k] + " by script " + script, x.statusOf(4), scans);
            }
        }
    }

    private static void restarts() {
        Check.sentence("then the bytes 255 and 208 + m, m being 0 for the first RESTART, 1, .. 7, 0, .. for others.");
        // Sixteen blocks of 0s: each has the words 0, 0, and six 1s where a restart or the end is behind it.
        Subject x = of(blocks(16));
        int[] every = Parts.dataOf(save(x, 0, 1), 0);
        Check.due("bytes", every.length, 16 + 2 * 15);
        for (int unit = 0; unit < 16; unit++) {
            Check.due("unit " + unit, every[3 * unit], 0x3f);
            if (unit < 15) {
                Check.due("ahead of the next one", every[3 * unit + 1], 255);
                Check.due("restart " + unit, every[3 * unit + 2], 208 + unit % 8);
            }
        }
        Check.sentence("With an INTERVAL n above 0 there is a RESTART ahead of each UNIT but the first whose number "
            + "(from 0 on) n divides:");
        Parts.same("none", Parts.dataOf(save(x, 0, 0), 0), 0, 0, 0, 0);
        Parts.same("each eighth", Parts.dataOf(save(x, 0, 8), 0), 0, 0, 255, 208, 0, 0);
        Parts.same("each fifth", Parts.dataOf(save(x, 0, 5), 0), 0, 0x3f, 255, 208, 0, 0x3f, 255, 209, 0, 0x3f, 255, 210, 0x3f);
        Parts.same("ahead of the last", Parts.dataOf(save(x, 0, 15), 0), 0, 0, 0, 0x03, 255, 208, 0x3f);
        Parts.same("as many as there are", Parts.dataOf(save(x, 0, 16), 0), 0, 0, 0, 0);
        Parts.same("the most", Parts.dataOf(save(x, 0, 65535), 0), 0, 0, 0, 0);
    }

    private static void restartsOfUnits() {
        Check.sentence("a UNIT has of each component, the first one first, V rows of H blocks.");
        // 32 by 8 of H 2 and H 1: two units of three blocks; alone four blocks and two.
        Model.Pic pic = Parts.plain(32, 8, 2);
        pic.h[0] = 2;
        pic.makeBlocks();
        Subject x = of(pic);
        Parts.same("together", Parts.dataOf(save(x, 0, 1), 0), 0x03, 255, 208, 0x03);
        int[] each = save(x, 1, 1);
        Parts.same("alone", Parts.dataOf(each, 0), 0x3f, 255, 208, 0x3f, 255, 209, 0x3f, 255, 210, 0x3f);
        Parts.same("alone, the other", Parts.dataOf(each, 1), 0x3f, 255, 208, 0x3f);
        int[] bands = save(x, 2, 2);
        Parts.same("direct, two units", Parts.dataOf(bands, 0), 0x03);
        Parts.same("a band, four units", Parts.dataOf(bands, 1), 0x3f, 255, 208, 0x3f);
        Parts.same("a band, two units", Parts.dataOf(bands, 2), 0x3f);
    }

    private static void predictions() {
        Check.sentence("At the beginning and behind a RESTART the PREDICTION of each component is 0, and there is no RUN.");
        Model.Pic pic = blocks(4);
        for (int bx = 0; bx < 4; bx++) {
            pic.blocks[0][0][bx][0] = 5;
        }
        Subject x = of(pic);
        // Size 3 alone: 0 101, and 0 for the others.
        Parts.same("behind a restart", Parts.dataOf(save(x, 0, 1), 0), 0x57, 255, 208, 0x57, 255, 209, 0x57, 255, 210, 0x57);
        // Size 0 three times and size 3: words 0 and 10; 10 101 0, 0 0, 0 0, 0 0.
        Parts.same("without", Parts.dataOf(save(x, 0, 0), 0), 0b10101000, 0b00001111);
        // With two between: size 3 and size 0 twice each; 256 joins size 3, so that 0 is shorter: 10 101 0, 0 0.
        Parts.same("every other one", Parts.dataOf(save(x, 0, 2), 0), 0b10101000, 255, 208, 0b10101000);
    }

    private static void bytes255() {
        Check.sentence("behind a byte 255 comes a byte 0, which is no bits.");
        // Nine direct coefficients 1: the refinement's bits are nine 1s.
        Model.Pic pic = blocks(16);
        for (int block = 0; block < 9; block++) {
            pic.blocks[0][block / 8][block % 8][0] = 1;
        }
        Subject x = of(pic);
        int[] bands = save(x, 2, 0);
        Parts.same("nine 1s", Parts.dataOf(bands, 4), 255, 0, 0b10000000);
        Check.sentence("the bits before it end with a whole byte, by as many 1s as needed;");
        int[] every = Parts.dataOf(save(x, 2, 1), 4);
        // A bit 1 and seven 1s are a byte 255, too.
        Check.due("bytes", every.length, 9 * 2 + 7 + 2 * 15);
        int at = 0;
        for (int unit = 0; unit < 16; unit++) {
            Check.due("unit " + unit, every[at], unit < 9 ? 255 : 127);
            if (unit < 9) {
                Check.due("its 0", every[at + 1], 0);
            }
            at += unit < 9 ? 2 : 1;
            if (unit < 15) {
                Check.due("restart", every[at + 1], 208 + unit % 8);
            }
            at += 2;
        }
        int[] eight = Parts.dataOf(save(x, 2, 8), 4);
        Parts.same("no 1s are needed", eight, 255, 0, 255, 208, 0b10000000);
        Check.sentence("So end the bits of the last UNIT.");
        x.cropTo(0, 0, 8, 1);
        Parts.same("eight bits", Parts.dataOf(save(x, 2, 0), 4), 255, 0);
        x.cropTo(0, 0, 5, 1);
        Parts.same("five bits and three more", Parts.dataOf(save(x, 2, 0), 4), 255, 0);
        x.setCoefficient(0, 4, 0, 0, 0);
        Parts.same("five bits and three more", Parts.dataOf(save(x, 2, 0), 4), 0b11110111);
    }

    private static void directSizes() {
        Check.sentence("d is v - the PREDICTION of its component, which is v then: the word of the direct table for SIZE d, "
            + "THE BITS OF d.");
        int[] values = {1023, -1024, 1023, -1, 0, 0, -512, -1024};
        int[] sizes = {10, 11, 11, 11, 1, 0, 10, 10};
        Pair pair = new Pair("direct sizes");
        Model.Pic pic = blocks(8);
        for (int bx = 0; bx < 8; bx++) {
            pic.blocks[0][0][bx][0] = values[bx];
        }
        pair.giveBytes(Parts.fileOf(pic, 0));
        pair.openInput();
        pair.saveAs(0, 0);
        pair.compareOutput();
        int[] words = Parts.contents(pair.m.output, 196, 0);
        Check.due("four sizes", words[17 + 0] + words[17 + 1] + words[17 + 2] + words[17 + 3], 0 + 1 + 10 + 11);
        StringBuilder bits = new StringBuilder();
        int before = 0;
        for (int bx = 0; bx < 8; bx++) {
            int d = values[bx] - before;
            before = values[bx];
            Check.due("size", Model.Coder.size(d), sizes[bx]);
            int low = d > 0 ? d : d - 1;
            bits.append(wordOf(words, sizes[bx]));
            for (int b = sizes[bx] - 1; b >= 0; b--) {
                bits.append(low >> b & 1);
            }
            bits.append("0");
        }
        Parts.same("data", Parts.dataOf(Parts.outputOf(pair.x), 0), Parts.data(bits.toString()));
        // Shifted with its sign: -1 by 2 is -1, -1023 by 2 is -512.
        Subject y = of(blocks(1));
        y.setCoefficient(0, 0, 0, 0, -1);
        Parts.same("-1 with BITS 1", Parts.dataOf(save(y, 2, 0), 0), 0b00111111);
        y.setCoefficient(0, 0, 0, 0, -1023);
        Parts.same("-1023 with BITS 1", Parts.dataOf(save(y, 2, 0), 0), Parts.data("0 0111111111"));
        Check.sentence("DIRECT, a REFINEMENT: one bit, that of the coefficient with number BITS (of its two's complement).");
        Parts.same("the lowest bit of -1023", Parts.dataOf(save(y, 2, 0), 4), 255, 0);
        y.setCoefficient(0, 0, 0, 0, -1024);
        Parts.same("the lowest bit of -1024", Parts.dataOf(save(y, 2, 0), 4), 127);
        y.setCoefficient(0, 0, 0, 0, -2);
        Parts.same("the lowest bit of -2", Parts.dataOf(save(y, 2, 0), 4), 127);
    }

    /** The word of a symbol in a table as it was told. */
    private static String wordOf(int[] table, int symbol) {
        int number = 0;
        int at = 17;
        for (int length = 1; length <= 16; length++) {
            number *= 2;
            for (int k = 0; k < table[length]; k++) {
                if (table[at] == symbol) {
                    String word = Integer.toBinaryString(number);
                    return "0".repeat(length - word.length()) + word;
                }
                at++;
                number++;
            }
        }
        return "none";
    }

    /** The symbols of the nth segment of words, which is to have one table. */
    private static void symbols(String what, int[] file, int nth, boolean behindDirect, int... want) {
        int[] words = Parts.contents(file, 196, nth);
        int from = behindDirect ? 18 + 17 : 17;
        int[] got = java.util.Arrays.copyOfRange(words, from, words.length);
        java.util.Arrays.sort(got);
        Parts.same(what, got, want);
    }

    private static void manyZeros() {
        Check.sentence("as long as R is above 15 the word for 240 comes, and R is 16 less; "
            + "the word for 16 * R + SIZE v, THE BITS OF v; R is 0.");
        int[][] cases = {{1, 0, 1}, {2, 0, 17}, {16, 0, 241}, {17, 0, 1, 240}, {18, 0, 17, 240}, {32, 0, 240, 241},
            {33, 0, 1, 240}, {62, 0, 209, 240}, {63, 225, 240}};
        for (int[] w : cases) {
            Subject x = of(blocks(1));
            x.setCoefficient(0, 0, 0, w[0], -1);
            symbols("one at " + w[0], save(x, 0, 0), 0, true, java.util.Arrays.copyOfRange(w, 1, w.length));
        }
        // Exactly: three times 240, then 225 with its bit, and no word for the end. 240 is the shorter word.
        Subject x = of(blocks(1));
        x.setCoefficient(0, 0, 0, 63, 1);
        Parts.same("one at 63", Parts.dataOf(save(x, 0, 0), 0), 0b00001011);
        x.setCoefficient(0, 0, 0, 47, 1);
        // 240, 240, 225 with a bit, 241 with a bit.
        symbols("at 47 and 63", save(x, 0, 0), 0, true, 225, 240, 241);
    }

    private static void blocksThatAreFull() {
        Check.sentence("At the end, if R is above 0: in WHOLE the word for 0;");
        Model.Pic pic = blocks(2);
        for (int k = 1; k < 64; k++) {
            pic.blocks[0][0][0][k] = 1;
            pic.blocks[0][0][1][k] = 1;
        }
        Subject x = of(pic);
        symbols("no end in full blocks", save(x, 0, 0), 0, true, 1);
        x.setCoefficient(0, 1, 0, 62, 0);
        symbols("nor where the last one is not 0", save(x, 0, 0), 0, true, 1, 17);
        x.setCoefficient(0, 1, 0, 63, 0);
        symbols("an end where it is", save(x, 0, 0), 0, true, 0, 1);
        // The only word, 0, and one bit 1 for each: 0 and 63 times 01.
        x.setCoefficient(0, 1, 0, 62, 1);
        x.setCoefficient(0, 1, 0, 63, 1);
        Parts.same("two full blocks", Parts.dataOf(save(x, 0, 0), 0), Parts.data(("0" + "01".repeat(63)).repeat(2)));
    }

    private static void zerosOfABand() {
        Check.sentence("v of a coefficient is its amount shifted BITS to the right, with its sign.");
        // Of the band 6 .. 63 with BITS 2: 3 and -3 are 0, 4 and -4 are 1 and -1.
        int[][] cases = {{6, 4, 0, 1}, {6, -4, 0, 1}, {6, 3, 0}, {6, -3, 0}, {6, 7, 0, 1}, {6, 8, 0, 2}, {6, -1023, 0, 8},
            {21, 4, 0, 241}, {22, 4, 0, 1, 240}, {63, 4, 145, 240}, {62, 4, 0, 129, 240}, {5, 4, 0}};
        for (int[] w : cases) {
            Subject x = of(blocks(1));
            x.setCoefficient(0, 0, 0, w[0], w[1]);
            symbols(w[1] + " at " + w[0], save(x, 2, 0), 2, false, java.util.Arrays.copyOfRange(w, 2, w.length));
        }
        // -1023 by 4 is -255: 00000000, behind the word 10 of size 8; a run of one, 0.
        Subject x = of(blocks(1));
        x.setCoefficient(0, 0, 0, 6, -1023);
        Parts.same("-1023 with BITS 2", Parts.dataOf(save(x, 2, 0), 2), Parts.data("10 00000000 0"));
    }

    private static void runsOfABand() {
        Check.sentence("in BAND the RUN is 1 more, and is sent if it is 32767.");
        Check.sentence("with n = SIZE of it - 1 the word for 16 * n, the lowest n bits of it, its bits; it is 0 then, without bits.");
        for (int many = 1; many <= 64; many++) {
            if (many > 8 && many % 8 != 0) {
                continue;
            }
            Subject x = of(blocks(many));
            int[] file = save(x, 2, 0);
            int n = 31 - Integer.numberOfLeadingZeros(many);
            String bits = Integer.toBinaryString(many).substring(1);
            for (int scan : new int[] {1, 2, 3, 5}) {
                Parts.same("a run of " + many, Parts.dataOf(file, scan), Parts.data("0" + bits));
            }
            symbols("a run of " + many, file, 1, false, 16 * n);
            symbols("a run of " + many, file, 4, false, 16 * n);
        }
        Check.sentence("for one that is not 0: in BAND the RUN is sent;");
        // Of eight blocks the third has one at 1, and one at 5: a run of two ahead of it; it ends full; then a run of five.
        Subject x = of(blocks(8));
        x.setCoefficient(0, 2, 0, 1, 4);
        x.setCoefficient(0, 2, 0, 5, 4);
        int[] file = save(x, 2, 0);
        symbols("runs of two and five", file, 1, false, 1, 16, 32, 49);
        int[] words = Parts.contents(file, 196, 1);
        Parts.same("in this order", Parts.dataOf(file, 1), Parts.data(wordOf(words, 16) + "0", wordOf(words, 1) + "1",
            wordOf(words, 49) + "1", wordOf(words, 32) + "01"));
    }

    private static void runsAndRestarts() {
        Check.sentence("It is sent ahead of a RESTART, and at the end, too.");
        Subject x = of(blocks(8));
        int[] file = save(x, 2, 3);
        for (int scan : new int[] {1, 2, 3, 5}) {
            // Runs of three, three and two: the word for 16 is the only one.
            Parts.same("runs of 3, 3, 2", Parts.dataOf(file, scan), 0x7f, 255, 208, 0x7f, 255, 209, 0x3f);
        }
        int[] every = save(x, 2, 1);
        Check.due("runs of one", Parts.dataOf(every, 1)[0], 0x7f);
        symbols("runs of one", every, 1, false, 0);
        // The bits of a refined run are sent with it.
        Model.Pic pic = blocks(4);
        for (int bx = 0; bx < 4; bx++) {
            pic.blocks[0][0][bx][1] = 2 + bx % 2;
        }
        Subject y = of(pic);
        Parts.same("runs with bits", Parts.dataOf(save(y, 2, 2), 5), Parts.data("0 0 01", "R0", "0 0 01"));
        Parts.same("one run with bits", Parts.dataOf(save(y, 2, 0), 5), Parts.data("0 00 0101"));
        Parts.same("runs of one with bits", Parts.dataOf(save(y, 2, 1), 5),
            Parts.data("0 0", "R0", "0 1", "R1", "0 0", "R2", "0 1"));
    }

    /** The data of the last scan, which refines 1 .. 63 with BITS 0, of blocks with these {block, k, value}. */
    private static void refined(String what, int many, int[][] values, String... bits) {
        Subject x = of(blocks(many));
        for (int[] w : values) {
            x.setCoefficient(0, w[0], 0, w[1], w[2]);
        }
        Parts.same(what, Parts.dataOf(save(x, 2, 0), 5), Parts.data(bits));
    }

    private static void refinedBits() {
        Check.sentence("Then: u above 1: the lowest bit of u is one more TO COME. u = 1: the RUN is sent; "
            + "the word for 16 * R + 1; a bit, 0 if the coefficient is below 0, else 1; the bits TO COME (none then); R is 0.");
        // 0 and 1 come once each: their words are 0 and 10. At the end there is a run of one.
        refined("a bit ahead of a new one", 1, new int[][] {{0, 1, 3}, {0, 2, -1}}, "10 0 1", "0");
        refined("a bit ahead of a new one", 1, new int[][] {{0, 1, -2}, {0, 2, 1}}, "10 1 0", "0");
        refined("a bit behind a new one", 1, new int[][] {{0, 1, -1}, {0, 2, 3}}, "10 0", "0 1");
        refined("bits ahead and behind", 1, new int[][] {{0, 1, 3}, {0, 2, 4}, {0, 3, 1}, {0, 4, 5}}, "10 1 10", "0 1");
        // R counts those with u = 0 alone: 1, 2 and 4 are passed over, 3 has a bit.
        refined("others among the 0s", 1, new int[][] {{0, 3, 2}, {0, 5, 1}}, "10 1 0", "0");
        Subject x = of(blocks(1));
        x.setCoefficient(0, 0, 0, 3, 2);
        x.setCoefficient(0, 0, 0, 5, 1);
        symbols("three are passed over", save(x, 2, 0), 4, false, 0, 49);
        Check.sentence("At the end, if R is above 0 or there are bits TO COME: the RUN is 1 more, and these are its bits, "
            + "behind those it has;");
        refined("bits of three blocks", 3, new int[][] {{0, 1, 2}, {1, 1, 3}, {1, 2, 2}, {2, 63, 5}}, "0 1", "0", "10", "1");
        // The run with its bit is sent ahead of the new one, whose block ends with another run.
        refined("a run ahead of a new one", 2, new int[][] {{0, 5, 2}, {1, 1, 1}}, "0 0", "10 1", "0");
        // A block with bits alone: no R, but a run. One with new ones alone: neither.
        Model.Pic pic = blocks(2);
        for (int k = 1; k < 64; k++) {
            pic.blocks[0][0][0][k] = 2 + k % 2;
            pic.blocks[0][0][1][k] = k % 2 == 0 ? 1 : -1;
        }
        Subject y = of(pic);
        // 0 once, 1 sixty-three times: 1 has the word 0.
        Parts.same("bits alone, new ones alone", Parts.dataOf(save(y, 2, 0), 5),
            Parts.data("10", "10".repeat(31) + "1", "00 01".repeat(31) + "00"));
        Check.sentence("The RUN is sent, if it is above 0:");
        Parts.same("no run at all", Parts.dataOf(save(crop(y), 2, 0), 5), Parts.data("00 01".repeat(31) + "00"));
        Check.sentence("L is the last one with u = 1 (-1 if there is none).");
        refined("no new one", 1, new int[][] {{0, 20, 2}, {0, 40, 3}}, "0 01");
        refined("two behind the last new one", 1, new int[][] {{0, 1, 1}, {0, 20, 2}, {0, 40, 3}}, "10 1", "0 01");
    }

    /** The second block alone. */
    private static Subject crop(Subject x) {
        Check.due("crop", x.cropTo(1, 0, 1, 1), true);
        return x;
    }

    private static void namesOfComponents() {
        Check.sentence("A SEGMENT 192 (sequential) or 194 (progressive) with the FRAME; component c has the name c + 1 and the table c.");
        Subject x = Parts.open("other names and tables", Tiny.S, Parts.quantiser(3, 9), Parts.quantiser(1, 5), Tiny.DC, Tiny.AC,
            Parts.frame(192, 9, 17, 200, 18, 3, 7, 17, 1, 0, 33, 3), Parts.scan(0, 63, 0, 200, 0, 7, 0, 0, 0),
            Parts.data("00".repeat(2 * 5)), Tiny.E);
        int[] whole = save(x, 0, 0);
        int[] frame = {8, 0, 9, 0, 17, 3, 1, 18, 0, 2, 17, 1, 3, 33, 2};
        Parts.same("frame", Parts.contents(whole, 192, 0), frame);
        Parts.same("no other", Parts.contents(whole, 194, 0));
        Parts.same("scan", Parts.contents(whole, 218, 0), 3, 1, 0, 2, 17, 3, 34, 0, 63, 0);
        int[] steps = Parts.contents(whole, 219, 0);
        for (int c = 0; c < 3; c++) {
            Check.due("table " + c, steps[65 * c], c);
            Check.due("its last step", steps[65 * c + 64], c == 1 ? 5 : 9);
        }
        int[] bands = save(x, 2, 0);
        Parts.same("progressive", Parts.contents(bands, 194, 0), frame);
        Parts.same("no other", Parts.contents(bands, 192, 0));
        // A height that was told by lines is told by the frame.
        Subject y = Parts.open("lines", Tiny.TABLES, Parts.frame(192, 0, 8, 1, 17, 0), Tiny.SCAN, Parts.data("0000"),
            Parts.lines(10), Tiny.E);
        Parts.same("frame", Parts.contents(save(y, 0, 0), 192, 0), 8, 0, 10, 0, 8, 1, 1, 17, 0);
        Parts.same("no lines", Parts.contents(Parts.outputOf(y), 220, 0));
    }

    private static void refinedZeros() {
        Check.sentence("as long as R is above 15 and the coefficient is not behind L: the RUN is sent, the word for 240, "
            + "the bits TO COME (which are none then), and R is 16 less.");
        // The last scan refines with BITS 0: 1 is a new one, 2 and more have bits. What comes, and the symbols of it.
        int[][][] cases = {
            {{1, 1}, {18, 2}, {0, 1}},
            {{1, 1}, {17, 2}, {18, 2}, {0, 1}},
            {{1, 2}, {18, 3}, {19, 1}, {0, 1, 240}},
            {{17, 1}, {0, 1, 240}},
            {{16, 1}, {0, 241}},
            {{16, 2}, {17, 1}, {0, 241}},
            {{17, 2}, {18, 1}, {0, 1, 240}},
            {{18, 2}, {19, 1}, {0, 17, 240}},
            {{33, 2}, {34, 1}, {0, 1, 240}},
            {{63, 1}, {225, 240}},
            {{62, 1}, {63, 2}, {0, 209, 240}},
            {{62, 2}, {63, 1}, {209, 240}},
            {{63, 2}, {0}},
            {{1, 3}, {63, 3}, {0}}};
        for (int[][] w : cases) {
            Pair pair = new Pair("refined zeros");
            Model.Pic pic = blocks(2);
            for (int k = 0; k < w.length - 1; k++) {
                pic.blocks[0][0][0][w[k][0]] = w[k][1];
            }
            // The second block has one more run, which ends with the scan.
            pic.blocks[0][0][1][1] = -2;
            pair.giveBytes(Parts.fileOf(pic, 0));
            pair.openInput();
            pair.saveAs(2, 0);
            pair.compareOutput();
            int[] file = Parts.outputOf(pair.x);
            int[] last = Parts.contents(file, 196, 4);
            int[] want = w[w.length - 1];
            for (int symbol : want) {
                boolean run = symbol == 0;
                boolean there = !wordOf(last, symbol).equals("none") || run && !wordOf(last, 16).equals("none");
                Check.due("symbol " + symbol, there, true);
            }
            Check.due("no 240 unless it is told", wordOf(last, 240).equals("none"), want[want.length - 1] != 240);
        }
        // To the last bit: 3 at 17, -1 at 18: 240, then 1 with its sign and the bit of 3, then a run.
        Subject x = of(blocks(1));
        x.setCoefficient(0, 0, 0, 17, 3);
        x.setCoefficient(0, 0, 0, 18, -1);
        // 240, 1, 0 come once each: 256 and 240 join, then 1 and 0, then both: two bits each.
        Parts.same("240, 1 and a run", Parts.dataOf(save(x, 2, 0), 5), Parts.data("10", "01 0 1", "00"));
        x.setCoefficient(0, 0, 0, 18, 0);
        Parts.same("only a run", Parts.dataOf(save(x, 2, 0), 5), Parts.data("0 1"));
    }

    /** A run of refined blocks is sent when it has more than 900 bits, and not when it has just these. */
    private static void runsWithManyBits() {
        Check.sentence("it is sent if it is 32767, or has more than 900 bits.");
        // Fourteen blocks with 63 bits each and one with 18 have 900; the next one makes it 963, of sixteen blocks.
        manyBits(18, 16, 8);
        // With 19 there are 901 of fifteen blocks, and nine are left.
        manyBits(19, 15, 9);
    }

    private static void manyBits(int ofTheFifteenth, int first, int second) {
        Pair pair = new Pair("runs with many bits, " + ofTheFifteenth);
        Model.Pic pic = Parts.plain(64, 24, 1);
        for (int block = 0; block < 24; block++) {
            for (int k = 1; k <= (block == 14 ? ofTheFifteenth : 63); k++) {
                pic.blocks[0][block / 8][block % 8][k] = 4 + (block + k) % 3;
            }
        }
        pair.giveBytes(Parts.fileOf(pic, 0));
        Check.due("open", pair.openInput(), 0);
        pair.saveAs(2, 0);
        pair.compareOutput();
        int[] last = Parts.contents(pair.m.output, 196, 4);
        int n = 31 - Integer.numberOfLeadingZeros(first);
        int m = 31 - Integer.numberOfLeadingZeros(second);
        symbols("runs of " + first + " and " + second, Parts.outputOf(pair.x), 4, false,
            n == m ? new int[] {16 * n} : new int[] {16 * Math.min(n, m), 16 * Math.max(n, m)});
        int[] data = Parts.dataOf(pair.m.output, 5);
        String word = wordOf(last, 16 * n) + Integer.toBinaryString(first).substring(1);
        String got = Integer.toBinaryString(256 + data[0]).substring(1) + Integer.toBinaryString(256 + data[1]).substring(1);
        Check.due("the first run", got.startsWith(word), true);
    }

    private static void blocksThatAreNotItsOwn() {
        Check.sentence("With one component it goes over the blocks OF ITS OWN, row by row; each is a UNIT.");
        // One component of 2 by 2 in a picture of 8 by 8: four blocks, of which one is its own.
        Subject x = new Subject();
        x.canvasSize(0, 8, 8);
        x.paintFrom(8, 8, 1, 3, 100);
        for (int block = 0; block < 4; block++) {
            x.setCoefficient(0, block % 2, block / 2, 5, 100 + block);
        }
        x.saveAs(0, 0);
        x.takeOutput();
        x.openInput();
        Check.due("its own", x.coefficientAt(0, 0, 0, 5), 100);
        for (int block = 1; block < 4; block++) {
            Check.due("another one", x.coefficientAt(0, block % 2, block / 2, 5), 0);
        }
        // Together with another they are all told, by script 0; of direct ones by script 2.
        Subject y = new Subject();
        y.paintFrom(1, 1, 2, 3, 100);
        for (int block = 0; block < 4; block++) {
            y.setCoefficient(0, block % 2, block / 2, 0, 10 + block);
            y.setCoefficient(0, block % 2, block / 2, 5, 100 + block);
        }
        for (int script : new int[] {0, 2, 1}) {
            y.saveAs(script, 0);
            y.takeOutput();
            y.openInput();
            Check.due("direct of another one by " + script, y.coefficientAt(0, 1, 1, 0), script == 1 ? 0 : 13);
            Check.due("another one by " + script, y.coefficientAt(0, 1, 1, 5), script == 0 ? 103 : 0);
            Check.due("its own by " + script, y.coefficientAt(0, 0, 0, 5), 100);
        }
    }

    /** What is opened again is the same, but for blocks that no scan of one component goes over. */
    private static void thereAndBack() {
        Check.sentence("READING is the same the other way:");
        for (int round = 0; round < 60; round++) {
            Random random = new Random(round);
            int[] file = new FileMaker(random, 28).make();
            if (file.length > 2400) {
                continue;
            }
            Pair pair = new Pair("there and back " + round);
            pair.giveBytes(file);
            pair.openInput();
            int amounts = pair.x.aboutPicture(5);
            boolean whole = pair.x.aboutPicture(0) % 16 == 0 && pair.x.aboutPicture(1) % 16 == 0;
            for (int script = 0; script < 3; script++) {
                if (pair.saveAs(script, random.nextInt(3)) > 0) {
                    pair.compareOutput();
                    pair.takeOutput();
                    Check.due("opens", pair.openInput(), 0);
                    pair.comparePicture();
                    if (whole || script == 0 && pair.x.statusOf(4) == 1 && pair.x.aboutPicture(2) > 1) {
                        Check.due("the same amounts", pair.x.aboutPicture(5), amounts);
                    }
                }
            }
        }
    }
}
