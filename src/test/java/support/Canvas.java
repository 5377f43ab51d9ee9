/** Samples of planes, as rows [y][x]. */
final class Canvas {
    private Canvas() {
    }

    static int[][] flat(int w, int h, int sample) {
        int[][] rows = new int[h][w];
        for (int[] row : rows) {
            java.util.Arrays.fill(row, sample);
        }
        return rows;
    }

    /** A plane becomes these samples. */
    static void put(Subject x, int plane, int[][] rows) {
        Check.due("canvasSize", x.canvasSize(plane, rows[0].length, rows.length), true);
        for (int y = 0; y < rows.length; y++) {
            for (int left = 0; left < rows[y].length; left += 8) {
                Check.due("canvasRow", x.canvasRow(plane, left, y, eight(rows[y], left)), true);
            }
        }
    }

    private static long eight(int[] row, int left) {
        long eight = 0;
        for (int k = left; k < left + 8; k++) {
            eight = eight << 8 | (k < row.length ? row[k] : 0);
        }
        return eight;
    }

    static int at(Subject x, int plane, int left, int y) {
        return (int) (x.canvasEight(plane, left, y) >>> 56);
    }

    /** A plane has this size and these samples, and no others. */
    static void due(String what, Subject x, int plane, int[][] rows) {
        Check.due(what + ": W of plane " + plane, x.statusOf(8 + 2 * plane), rows[0].length);
        Check.due(what + ": H of plane " + plane, x.statusOf(9 + 2 * plane), rows.length);
        for (int y = 0; y < rows.length; y++) {
            for (int left = 0; left < rows[y].length; left += 8) {
                Check.due(what + ": plane " + plane + " from (" + left + ", " + y + ") on",
                    x.canvasEight(plane, left, y), eight(rows[y], left));
            }
        }
    }
}
