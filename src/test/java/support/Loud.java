import java.util.Arrays;

/**
 * A picture so full that its file is about as long as an input can be, though it comes of a short one:
 * progressive, each of its 12096 other coefficients is told by two bits, but saving it takes eleven.
 */
final class Loud {
    private static final int BLOCKS = 48;
    private static final String ONES = "01";

    private Loud() {
    }

    /** A file of 64 by 48 with four components; of the last one only the coefficients 1 .. last are not 0. */
    static int[] file(int last) {
        int[] file = Parts.join(Parts.START, Parts.quantiser(0, 1), Parts.words(0, 0), Parts.words(16, 1),
            Parts.frame(194, 48, 64, 1, 17, 0, 2, 17, 0, 3, 17, 0, 4, 17, 0),
            Parts.scan(0, 0, 0, 1, 0, 2, 0, 3, 0, 4, 0), new int[4 * BLOCKS / 8]);
        for (int c = 0; c < 4; c++) {
            int to = c == 3 ? last : 63;
            file = Parts.join(file, Parts.scan(1, to, 9, c + 1, 0), Parts.data(ONES.repeat(BLOCKS * to)));
        }
        return Parts.join(file, Parts.END);
    }

    /** A subject with such a picture. */
    static Subject subject(int last) {
        return Parts.open("a loud picture", file(last));
    }

    /** How long script 0 would be, by the model; with these coefficients of component 3 set to others first. */
    static int length(int last, int[][] changes) {
        Model model = new Model();
        model.picture = Parts.plain(64, 48, 4);
        for (int c = 0; c < 4; c++) {
            for (int[][] row : model.picture.blocks[c]) {
                for (int[] block : row) {
                    Arrays.fill(block, 1, c == 3 ? last + 1 : 64, 512);
                }
            }
        }
        for (int[] change : changes) {
            model.setCoefficient(3, change[0], change[1], change[2], change[3]);
        }
        model.saveAs(0, 0);
        return model.wouldBe;
    }

    /**
     * Changes {bx, by, k, v} of component 3 with which script 0 is just so long: coefficients become 1, each of
     * which leaves nine bits out, until it is.
     */
    static int[][] changesFor(int last, int length) {
        int[][] changes = new int[0][];
        for (int n = 0; n < 60; n++) {
            int now = length(last, changes);
            if (now == length) {
                return changes;
            }
            changes = Arrays.copyOf(changes, n + 1);
            // Words become longer with other symbols, so 1 comes only as often as it must.
            changes[n] = new int[] {n % 8, n / 8 % 6, 1 + n / 48, 1};
        }
        throw new IllegalStateException("no such length");
    }
}
