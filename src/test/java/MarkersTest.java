import java.util.Arrays;

/** Promise 5: markers, segments and their lengths, with faults 1 to 5. */
public final class MarkersTest {
    private static final int[] S = Tiny.S;
    private static final int[] E = Tiny.E;
    private static final int[] TABLES = Tiny.TABLES;
    private static final int HEAD = Tiny.HEAD;

    public static void main(String[] args) {
        beginning();
        severalBytes255();
        whatStandsBehind();
        anyContents();
        twoBytes();
        theInputEnds();
        noMarker();
        markersThatCanNotBe();
        markersOutOfPlace();
        shortLengths();
        otherLengths();
        beyondTheLength();
        whatComesFirst();
        countOfSegments();
        Check.end();
    }

    private static int[] row(int... bytes) {
        return bytes;
    }

    private static void beginning() {
        Check.sentence("the MARKER 216 (its first byte being the INPUT's first one, and just one 255)");
        Parts.due("just that", 1, 2, S);
        Parts.due("255 twice", 2, 0, row(255, 255, 216), Arrays.copyOfRange(Tiny.FILE, 2, Tiny.FILE.length));
        Parts.due("a byte ahead of it", 2, 0, row(0), Tiny.FILE);
        Parts.due("a byte 216 ahead of it", 2, 0, row(216), Tiny.FILE);
        Check.sentence("2: the beginning is not MARKER 216 (0).");
        for (int first : row(0, 1, 127, 216, 254)) {
            Parts.due("first byte " + first, 2, 0, row(first));
            Parts.due("first byte " + first + ", then 216", 2, 0, row(first, 216));
        }
        for (int second : row(0, 1, 215, 217, 254, 255)) {
            Parts.due("second byte " + second, 2, 0, row(255, second));
        }
    }

    private static void severalBytes255() {
        Check.sentence("A MARKER is one or more bytes 255 and a byte that is not 255, its CODE.");
        Parts.due("more 255s in markers", 0, -1, S, row(255), Tiny.Q, row(255, 255), Tiny.DC, row(255), Tiny.AC,
            row(255, 255, 255), Tiny.FRAME, row(255), Tiny.SCAN, Tiny.BITS, row(255, 255), E);
        Parts.due("many of them", 0, -1, S, new255(300), Tiny.Q, Tiny.DC, Tiny.AC, Tiny.FRAME, Tiny.SCAN, Tiny.BITS,
            new255(300), E);
        Parts.due("a code 0", 4, 3, S, row(255, 0));
        Parts.due("only 255s", 1, 5, S, row(255, 255, 255));
    }

    private static int[] new255(int many) {
        int[] all = new int[many];
        Arrays.fill(all, 255);
        return all;
    }

    private static void whatStandsBehind() {
        Check.sentence("what stands behind that is not looked at");
        Parts.due("nothing behind it", 0, -1, Tiny.FILE);
        Parts.due("any bytes", 0, -1, Tiny.FILE, row(1, 2, 3));
        Parts.due("half a marker", 0, -1, Tiny.FILE, row(255));
        Parts.due("another end", 0, -1, Tiny.FILE, E);
        Parts.due("another frame", 0, -1, Tiny.FILE, Tiny.FRAME);
        Parts.due("another file", 0, -1, Tiny.FILE, Tiny.FILE);
        Parts.due("a restart", 0, -1, Tiny.FILE, row(255, 208));
    }

    private static void anyContents() {
        Check.sentence("224 .. 239 and 254: any CONTENTS.");
        for (int code = 224; code <= 239; code++) {
            Parts.due("marker " + code, 0, -1, S, Parts.segment(code, 1, 2, 3), rest());
        }
        Parts.due("marker 254", 0, -1, S, Parts.segment(254, 1, 2, 3), rest());
        Parts.due("none", 0, -1, S, Parts.segment(224), Parts.segment(239), Parts.segment(254), rest());
        Parts.due("markers", 0, -1, S, Parts.segment(254, 255, 217, 255, 216, 255), rest());
        int[] all = new int[256];
        for (int k = 0; k < 256; k++) {
            all[k] = k;
        }
        Parts.due("all bytes", 0, -1, S, Parts.segment(230, all), rest());
        for (int code : row(223, 240, 253)) {
            Parts.due("not marker " + code, 4, 3, S, Parts.segment(code, 1, 2, 3), rest());
        }
    }

    /** The tiny file behind its beginning. */
    private static int[] rest() {
        return Arrays.copyOfRange(Tiny.FILE, 2, Tiny.FILE.length);
    }

    private static void twoBytes() {
        Check.sentence("Numbers of two bytes have the higher one first.");
        Parts.due("length 256", 0, -1, S, Parts.segment(254, new int[254]), rest());
        Parts.due("length 258", 0, -1, S, Parts.segment(254, new int[256]), rest());
        Parts.due("length 256, cut off", 1, 8, S, row(255, 254, 1, 0, 5, 5));
        Parts.due("length 65535", 1, 9, S, row(255, 254, 255, 255, 1, 2, 3));
        Parts.due("width 256", 6, 10, S, row(255, 192, 0, 11, 8, 0, 8, 1, 0));
        Parts.due("height 256", 6, 8, S, row(255, 192, 0, 11, 8, 1, 0));
        // 256 units between two restarts: two units have none.
        int[] two = Parts.frame(192, 8, 16, 1, 17, 0);
        Parts.due("interval 256", 0, -1, TABLES, Parts.interval(256), two, Tiny.SCAN, Parts.data("0000"), E);
        Parts.due("interval 1", 15, 0, TABLES, Parts.interval(1), two, Tiny.SCAN, Parts.data("0000"), E);
    }

    private static void theInputEnds() {
        Check.sentence("1: the INPUT ends where a byte is to be read (its length; of no byte 0, of a byte 255 alone 1).");
        Parts.due("no byte", 1, 0, row());
        Parts.due("255 alone", 1, 1, row(255));
        for (int length = 0; length < Tiny.FILE.length; length++) {
            Parts.due("the first " + length, 1, length, Arrays.copyOf(Tiny.FILE, length));
        }
        Parts.due("a length cut off", 1, 5, S, row(255, 224, 0));
        Parts.due("a length cut off that would be 0 or 1", 1, 5, S, row(255, 254, 0));
        Parts.due("contents cut off", 1, 7, S, row(255, 239, 0, 9, 1));
        Parts.due("all contents cut off", 1, 6, S, row(255, 239, 0, 3));
    }

    private static void noMarker() {
        Check.sentence("3: 255 is not there where a MARKER has to begin (the byte there).");
        for (int b : row(0, 1, 216, 217, 254)) {
            Parts.due("byte " + b, 3, 2, S, row(b));
            Parts.due("byte " + b + " ahead of a marker", 3, 2, S, row(b), Tiny.Q);
            Parts.due("byte " + b + " behind a segment", 3, 2 + 69, S, Tiny.Q, row(b), E);
        }
        Parts.due("behind a frame", 3, HEAD + 13, TABLES, Tiny.FRAME, row(7), Tiny.SCAN);
        int[] unknown = Parts.frame(192, 0, 8, 1, 17, 0);
        Parts.due("behind lines", 3, HEAD + 13 + 11 + 6, TABLES, unknown, Tiny.SCAN, Tiny.BITS, Parts.lines(8), row(7));
    }

    private static void markersThatCanNotBe() {
        Check.sentence("4: a MARKER that can not be there: none of these, ");
        for (int code = 0; code < 255; code++) {
            boolean known = code >= 224 && code <= 239 || code == 254 || code == 219 || code == 196 || code == 221
                || code == 192 || code == 194;
            if (!known) {
                Parts.due("marker " + code, 4, 3, S, row(255, code));
                Parts.due("marker " + code + " behind three 255s", 4, 5, S, row(255, 255, 255, code));
            } else {
                Parts.due("marker " + code, 1, 4, S, row(255, code));
            }
        }
        for (int code : row(0, 191, 193, 195, 197, 208, 215, 216, 222, 223, 240, 253)) {
            Parts.due("marker " + code + " behind a frame", 4, HEAD + 13 + 1, TABLES, Tiny.FRAME, row(255, code));
            Parts.due("marker " + code + " behind data", 4, HEAD + 13 + 10 + 1 + (code == 0 ? 5 : 1), TABLES, Tiny.FRAME,
                Tiny.SCAN, Tiny.BITS, code == 0 ? row(255, 254, 0, 2) : row(), row(255, code), E);
        }
    }

    private static void markersOutOfPlace() {
        Check.sentence("a second FRAME, a SCAN ahead of the FRAME, a wrong RESTART or one without an INTERVAL, ");
        int[][] frames = {Tiny.FRAME, Tiny.PROGRESSIVE};
        for (int[] one : frames) {
            for (int[] other : frames) {
                Parts.due("a second frame", 4, HEAD + 14, TABLES, one, other);
            }
        }
        Parts.due("a second frame behind a scan", 4, HEAD + 13 + 12, TABLES, Tiny.FRAME, Tiny.SCAN, Tiny.BITS, Tiny.FRAME);
        Parts.due("a scan ahead of the frame", 4, HEAD + 1, TABLES, Tiny.SCAN);
        Parts.due("a scan at once", 4, 3, S, Tiny.SCAN);
        Check.sentence("217 without a FRAME, or ahead of all components having been in a SCAN "
            + "(in a progressive FRAME: in one with FIRST 0) (its CODE).");
        Parts.due("217 at once", 4, 3, S, E);
        Parts.due("217 without a frame", 4, HEAD + 1, TABLES, E);
        Parts.due("217 without a scan", 4, HEAD + 14, TABLES, Tiny.FRAME, E);
        Parts.due("217 without a scan, progressive", 4, HEAD + 14, TABLES, Tiny.PROGRESSIVE, E);
        for (int many = 2; many <= 4; many++) {
            int[] names = {1, 17, 0, 2, 17, 0, 3, 17, 0, 4, 17, 0};
            int[] scans = Parts.join(TABLES, Parts.frame(192, 8, 8, Arrays.copyOf(names, 3 * many)));
            int[] direct = Parts.join(TABLES, Parts.frame(194, 8, 8, Arrays.copyOf(names, 3 * many)));
            for (int c = many; c >= 1; c--) {
                Parts.due("217 ahead of component " + c, 4, scans.length + 1, scans, E);
                Parts.due("217 ahead of component " + c + ", progressive", 4, direct.length + 1, direct, E);
                scans = Parts.join(scans, Parts.scan(0, 63, 0, c, 0), Tiny.BITS);
                direct = Parts.join(direct, Parts.scan(0, 0, 0, c, 0), Tiny.BIT);
            }
            Parts.due("217 behind all", 0, -1, scans, E);
            Parts.due("217 behind all, progressive", 0, -1, direct, E);
        }
    }

    private static void shortLengths() {
        Check.sentence("5: a LENGTH below 2, ");
        for (int code : row(192, 194, 196, 219, 221, 224, 239, 254)) {
            Parts.due("length 0 of " + code, 5, 4, S, row(255, code, 0, 0));
            Parts.due("length 1 of " + code, 5, 4, S, row(255, code, 0, 1));
            Parts.due("length 1 of " + code + " behind more 255s", 5, 6, S, row(255, 255, 255, code, 0, 1));
            Parts.due("its second byte is to be read", 1, 5, S, row(255, code, 0));
        }
        Parts.due("of a scan", 5, HEAD + 13 + 2, TABLES, Tiny.FRAME, row(255, 218, 0, 1));
        Parts.due("of lines", 5, HEAD + 13 + 11 + 2, TABLES, Parts.frame(192, 0, 8, 1, 17, 0), Tiny.SCAN, Tiny.BITS,
            row(255, 220, 0, 1));
        Parts.due("length 2", 1, 6, S, row(255, 224, 0, 2));
    }

    private static void otherLengths() {
        Check.sentence("or one in which the CONTENTS do not end as they should "
            + "(its first byte; what is wrong within the CONTENTS comes ahead of that).");
        Parts.due("no table of quantisers", 5, 4, S, Parts.segment(219));
        Parts.due("no table of words", 5, 4, S, Parts.segment(196));
        Parts.due("no interval", 5, 4, S, Parts.segment(221));
        Parts.due("no frame", 5, 4, S, Parts.segment(192));
        Parts.due("no scan", 5, HEAD + 13 + 2, TABLES, Tiny.FRAME, Parts.segment(218));
        Parts.due("a short table of quantisers", 5, 4, S, Parts.segment(219, 0, 1, 1));
        Parts.due("interval of one byte", 5, 4, S, Parts.segment(221, 0));
        Parts.due("interval of three bytes", 5, 4, S, Parts.segment(221, 0, 0, 0));
        Parts.due("interval of three bytes, cut off", 5, 4, S, Parts.segmentOf(5, 221, 0, 0));
        Parts.due("a longer frame", 5, 4, S, Parts.segment(192, 8, 0, 8, 0, 8, 1, 1, 17, 0, 0));
        Parts.due("a longer frame, cut off", 5, 4, S, Parts.segmentOf(12, 192, 8, 0, 8, 0, 8, 1, 1, 17, 0));
        Parts.due("a frame with a wrong byte and too long", 6, 14, S, Parts.segment(192, 8, 0, 8, 0, 8, 1, 1, 17, 4, 0));
        Parts.due("a shorter frame", 5, 4, S, Parts.segment(192, 8, 0, 8, 0, 8, 1, 1, 17));
        Parts.due("a shorter frame with a wrong byte", 6, 13, S, Parts.segment(192, 8, 0, 8, 0, 8, 1, 1, 19));
        int[] head = Parts.join(TABLES, Tiny.FRAME);
        Parts.due("a longer scan", 5, HEAD + 15, head, Parts.segment(218, 1, 1, 0, 0, 63, 0, 0));
        Parts.due("a longer scan, cut off", 5, HEAD + 15, head, Parts.segmentOf(9, 218, 1, 1, 0, 0, 63, 0));
        Parts.due("a shorter scan", 5, HEAD + 15, head, Parts.segment(218, 1, 1, 0, 0, 63));
        Parts.due("a scan of two that has room for one", 5, HEAD + 16 + 2, TABLES,
            Parts.frame(192, 8, 8, 1, 17, 0, 2, 17, 0), Parts.segmentOf(8, 218, 2, 1, 0, 2, 0, 0, 63, 0));
        Parts.due("a further table that ends at once", 5, 4, S, Parts.segmentOf(21, 196, Parts.table(0, 0)), row(1));
        Parts.due("a further table of quantisers that ends at once", 5, 4, S,
            Parts.segmentOf(68, 219, Arrays.copyOfRange(Tiny.Q, 4, 69)), row(1));
    }

    private static void beyondTheLength() {
        Check.sentence("CONTENTS that go beyond the LENGTH are fault 5 as soon as a byte of them would be (ahead of 1).");
        Parts.due("the input and the length end together", 5, 4, S, Parts.segmentOf(3, 219, 0));
        Parts.due("the input ends first", 1, 7, S, Parts.segmentOf(4, 219, 0));
        Parts.due("the length ends first, with a wrong byte behind", 5, 4, S, Parts.segmentOf(4, 219, 0, 1, 0));
        Parts.due("a wrong byte at its end", 6, 7, S, Parts.segmentOf(4, 219, 0, 0));
        Parts.due("more counts than the length", 5, 4, S, Parts.segmentOf(18, 196, Parts.table(0, 0)));
        Parts.due("more symbols than the length", 5, 4, S, Parts.segmentOf(20, 196, Parts.table(0, 0, 1)));
        Parts.due("between the two bytes of a number", 5, 4, S, Parts.segmentOf(4, 192, 8, 1, 1));
        Parts.due("the input between these", 1, 8, S, Parts.segmentOf(11, 192, 8, 9));
        for (int length = 2; length < 11; length++) {
            Parts.due("a frame of length " + length, 5, 4, S, Parts.segmentOf(length, 192, 8, 0, 8, 0, 8, 1, 1, 17, 0));
        }
        for (int length = 2; length < 8; length++) {
            Parts.due("a scan of length " + length, 5, HEAD + 15, TABLES, Tiny.FRAME,
                Parts.segmentOf(length, 218, 1, 1, 0, 0, 63, 0));
        }
        for (int length = 2; length < 4; length++) {
            Parts.due("an interval of length " + length, 5, 4, S, Parts.segmentOf(length, 221, 0, 0), rest());
            Parts.due("lines of length " + length, 5, HEAD + 26, TABLES, Parts.frame(192, 0, 8, 1, 17, 0), Tiny.SCAN,
                Tiny.BITS, Parts.segmentOf(length, 220, 0, 8), E);
        }
    }

    private static void whatComesFirst() {
        Check.sentence("the first one that is seen, from the first byte on, counts.");
        Parts.due("3 ahead of 4", 3, 2, S, row(7, 255, 0));
        Parts.due("4 ahead of 3", 4, 3, S, row(255, 0, 7));
        Parts.due("6 ahead of 1", 6, 6, S, Parts.segmentOf(67, 219, 4));
        Parts.due("6 ahead of 4", 6, 7, S, Parts.quantiser(0, 0), row(255, 0));
        Parts.due("4 ahead of 8", 4, 3, S, row(255, 218), Tiny.FRAME);
        // A fault of the last marker comes ahead of those of data that lie before it.
        Parts.due("1 to 8 ahead of 10 and more", 3, HEAD + 13 + 11 + 4, TABLES, Tiny.FRAME, Tiny.SCAN, row(0),
            Parts.segment(254), row(1));
    }

    private static void countOfSegments() {
        Check.sentence("and the MARKER 217 (these two are no SEGMENTS)");
        Subject x = Parts.open("five segments", Tiny.FILE);
        Check.due("segments", x.statusOf(5), 5);
        Subject y = Parts.open("with more", S, Parts.segment(254), Parts.segment(224, 1), Tiny.Q, Tiny.DC, Tiny.AC,
            Tiny.FRAME, Tiny.SCAN, Tiny.BITS, Parts.segment(239), E, Parts.segment(254), E);
        Check.due("segments", y.statusOf(5), 8);
        // As many as can be told in 512 calls, ahead of the first scan and behind the last one.
        int[] many = new int[0];
        for (int k = 0; k < 430; k++) {
            many = Parts.join(many, Parts.segment(224 + k % 16));
        }
        Subject z = Parts.open("many segments", S, many, Tiny.Q, Tiny.DC, Tiny.AC, Tiny.FRAME, Tiny.SCAN, Tiny.BITS, many, E);
        Check.due("segments", z.statusOf(5), 2 * 430 + 5);
    }
}
