/** Parts of a file whose picture has one block, all 0. */
final class Tiny {
    static final int[] S = Parts.START;
    static final int[] E = Parts.END;
    /** Of 69, 24, 22 bytes. */
    static final int[] Q = Parts.quantiser(0, 7);
    static final int[] DC = Parts.words(0, 0, 1, 11);
    static final int[] AC = Parts.words(16, 0);
    static final int[] FRAME = Parts.frame(192, 8, 8, 1, 17, 0);
    static final int[] PROGRESSIVE = Parts.frame(194, 8, 8, 1, 17, 0);
    static final int[] SCAN = Parts.scan(0, 63, 0, 1, 0);
    static final int[] DIRECT = Parts.scan(0, 0, 0, 1, 0);
    /** Both words of one block, 0 and 0. */
    static final int[] BITS = {0x3f};
    /** The only word of one block. */
    static final int[] BIT = {0x7f};
    static final int[] TABLES = Parts.join(S, Q, DC, AC);
    static final int HEAD = TABLES.length;
    /** All of it. */
    static final int[] FILE = Parts.join(TABLES, FRAME, SCAN, BITS, E);

    private Tiny() {
    }

    static int[] row(int... bytes) {
        return bytes;
    }
}
