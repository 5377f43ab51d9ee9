import java.util.Arrays;
import java.util.Random;

/** Promise 6: THE BEST TABLE for how often symbols come, as it is told ahead of a scan. */
public final class BestWordsTest {
    public static void main(String[] args) {
        oneSymbol();
        tiesAndPlaces();
        orderOfSymbols();
        longestWords();
        eachScanForItself();
        byChance();
        Check.end();
    }

    /**
     * A full picture, all of whose blocks have 63 other coefficients that are not 0, so that only symbols 1 .. 10
     * come: sizes[n] so often as often[n] says. What is left over is filled with the last size.
     */
    private static Model.Pic sizes(int[] sizes, int[] often) {
        int all = 0;
        for (int n : often) {
            all += n;
        }
        int blocks = (all + 62) / 63;
        Model.Pic pic = Parts.plain(8 * Math.min(8, blocks), 8 * ((blocks + 7) / 8), 1);
        int at = 0;
        int which = 0;
        int left = often[0];
        int total = Math.min(8, blocks) * ((blocks + 7) / 8) * 63;
        while (at < total) {
            while (left == 0 && which < sizes.length - 1) {
                which++;
                left = often[which];
            }
            left--;
            int block = at / 63;
            int across = pic.blocks[0][0].length;
            pic.blocks[0][block / across][block % across][1 + at % 63] = 1 << sizes[which] - 1;
            at++;
        }
        return pic;
    }

    /** The AC table of the only scan of script 0, saved from the file of this picture. */
    private static int[] table(Model.Pic pic) {
        Subject x = Parts.open("a picture", Parts.fileOf(pic, 0));
        x.saveAs(0, 0);
        int[] words = Parts.contents(Parts.outputOf(x), 196, 0);
        int direct = 17 + words[1] + words[2] + words[3] + words[4];
        return Arrays.copyOfRange(words, direct, words.length);
    }

    private static void due(String what, int[] table, int[] counts, int... symbols) {
        Check.due(what + ": its name", table[0], 16);
        Parts.same(what + ": counts", Arrays.copyOfRange(table, 1, 17), Arrays.copyOf(counts, 16));
        Parts.same(what + ": symbols", Arrays.copyOfRange(table, 17, table.length), symbols);
    }

    private static void oneSymbol() {
        Check.sentence("Then one word of the greatest length that there is goes.");
        due("one symbol", table(sizes(new int[] {3}, new int[] {63})), new int[] {1}, 3);
        // The word of place 256 is never told: with one symbol it is 1, and 0 is the symbol's.
        Subject x = new Subject();
        x.paintFrom(1, 1, 1, 0, 100);
        x.saveAs(0, 0);
        int[] words = Parts.contents(Parts.outputOf(x), 196, 0);
        Parts.same("both tables", words, 0, 1, 0, 0, 0, 0, 0, 0, 0, 0, 0, 0, 0, 0, 0, 0, 0, 7,
            16, 1, 0, 0, 0, 0, 0, 0, 0, 0, 0, 0, 0, 0, 0, 0, 0, 0);
    }

    private static void tiesAndPlaces() {
        Check.sentence("place 256 with 1; each that has more than 0 is a GROUP of itself.");
        Check.sentence("of those with the least number the one with the greatest place is A; "
            + "of the others with the least number the one with the greatest place is B.");
        // 62 of one, one of the other: 256 and the rare one join.
        due("one is rare", table(sizes(new int[] {2, 5}, new int[] {62, 1})), new int[] {1, 1}, 2, 5);
        due("the other is rare", table(sizes(new int[] {5, 2}, new int[] {62, 1})), new int[] {1, 1}, 5, 2);
        // 1, 1, 61: 256 joins the greater one (2), the lesser one joins these (3): 4, 3, 2 bits; 256's goes.
        due("two are rare", table(sizes(new int[] {9, 3, 4}, new int[] {61, 1, 1})), new int[] {1, 1, 1}, 9, 3, 4);
        // 1, 1, 1, 60: 256 and 8; 7 and 6; both; then 4: 1, 3, 3, 3 bits.
        due("three are rare", table(sizes(new int[] {4, 6, 7, 8}, new int[] {60, 1, 1, 1})), new int[] {1, 0, 3}, 4, 6, 7, 8);
        // 2, 1, 60: 256 and 3 (in the place 256, 2); then this one is A, 8 is B: 8 has 2 bits, 3 has 3.
        due("two and one", table(sizes(new int[] {5, 8, 3}, new int[] {60, 2, 1})), new int[] {1, 1, 1}, 5, 8, 3);
        // 2, 2, 1, 58: 256 and 1 (2, in the place 256); this and 9 (4); 3 (2) and this: 3, 9, 1 by 2, 3, 4 bits.
        due("two, two and one", table(sizes(new int[] {5, 9, 3, 1}, new int[] {58, 2, 2, 1})), new int[] {1, 1, 1, 1},
            5, 3, 9, 1);
        // 21 each: 256 and 3 (22), then 2 and 1 (42, in 2's place), then both: two bits each.
        due("three alike", table(sizes(new int[] {1, 2, 3}, new int[] {21, 21, 21})), new int[] {0, 3}, 1, 2, 3);
        // 31 and 32: 256 and 1 (32, in the place 256), then this is A and 2 is B: 2, 1 bits.
        due("nearly alike", table(sizes(new int[] {1, 2}, new int[] {31, 32})), new int[] {1, 1}, 2, 1);
        due("nearly alike, the other way", table(sizes(new int[] {2, 1}, new int[] {31, 32})), new int[] {1, 1}, 1, 2);
        Check.sentence("All places of both are one bit longer (0 at first), and both are one group, in A's place, "
            + "with the sum of their numbers.");
        // 256 and 5 are 2 in the place 256; with 3 they are 4, with 1 they are 8.
        due("4, 2, 1, 56", table(sizes(new int[] {7, 1, 3, 5}, new int[] {56, 4, 2, 1})), new int[] {1, 1, 1, 1}, 7, 1, 3, 5);
        // 256 and 4 are 2 in the place 256; with 9 they are 4 there. Then 2 is A, and of the two that have 4 (the
        // other one is 10) the greater place is B: that of 256. In 9's place it would be 10.
        due("4, 2, 2, 1, 54", table(sizes(new int[] {1, 10, 2, 9, 4}, new int[] {54, 4, 2, 2, 1})),
            new int[] {1, 1, 1, 1, 1}, 1, 10, 2, 9, 4);
    }

    private static void orderOfSymbols() {
        Check.sentence("The symbols lie by their bits (before lengths were done away with), the fewest first, "
            + "and by their numbers among these (place 256 is none of them); the words, in their order, are theirs.");
        int[] seven = table(sizes(new int[] {7, 6, 5, 4, 3, 2, 1}, new int[] {9, 9, 9, 9, 9, 9, 9}));
        due("seven alike", seven, new int[] {0, 0, 7}, 1, 2, 3, 4, 5, 6, 7);
        // The words in their order: 000, 001, .. 110 for 1 .. 7. All coefficients are told by them.
        Subject x = Parts.open("a picture", Parts.fileOf(sizes(new int[] {7, 6, 5, 4, 3, 2, 1}, new int[] {9, 9, 9, 9, 9, 9, 9}), 0));
        x.saveAs(0, 0);
        StringBuilder bits = new StringBuilder("0");
        for (int size = 7; size >= 1; size--) {
            String word = Integer.toBinaryString(8 + size - 1).substring(1);
            bits.append((word + "1" + "0".repeat(size - 1)).repeat(9));
        }
        Parts.same("data", Parts.dataOf(Parts.outputOf(x), 0), Parts.data(bits.toString()));
    }

    /**
     * Numbers like Fibonacci's, the rarer symbols being the greater ones, make words of 1, 2, 3, .. 16 bits.
     * Longer ones do not come of a picture: one component has at most 4032 coefficients beside its direct ones,
     * and a word of 17 bits needs 4181 places.
     */
    private static void longestWords() {
        Check.sentence("lengths above 16 are done away with, from the greatest one, L, on down:");
        int[] symbols = {1, 2, 3, 4, 5, 6, 7, 8, 9, 10, 17, 18, 19, 20, 21, 22};
        int[] often = {1030, 610, 377, 233, 144, 89, 55, 34, 21, 13, 8, 5, 3, 2, 1, 1};
        Model.Pic pic = Parts.plain(56, 48, 1);
        int at = 0;
        // All 42 blocks are full, so that there is no word for a block's end.
        for (int n = 15; n >= 0; n--) {
            for (int t = 0; t < often[n]; t++) {
                at += symbols[n] / 16;
                int block = at / 63;
                pic.blocks[0][block / 7][block % 7][1 + at % 63] = 1 << symbols[n] % 16 - 1;
                at++;
            }
        }
        Check.due("all are full", at, 42 * 63);
        Subject x = Parts.open("a picture", Parts.fileOf(pic, 0));
        int amounts = x.aboutPicture(5);
        int length = x.saveAs(0, 0);
        int[] ones = new int[16];
        Arrays.fill(ones, 1);
        int[] words = Parts.contents(Parts.outputOf(x), 196, 0);
        due("sixteen lengths", Arrays.copyOfRange(words, 18, words.length), ones, symbols);
        x.takeOutput();
        Check.due("taken", x.statusOf(0), length);
        Check.due("opens", x.openInput(), 0);
        Check.due("the same", x.aboutPicture(5), amounts);
    }

    private static void eachScanForItself() {
        Check.sentence("each THE BEST TABLE for how often its SYMBOLS come in this SCAN;");
        Model.Pic pic = Parts.plain(8, 8, 2);
        for (int k = 1; k < 64; k++) {
            pic.blocks[0][0][0][k] = 1;
            pic.blocks[1][0][0][k] = k < 60 ? 2 : 4;
        }
        pic.blocks[0][0][0][0] = 1;
        pic.blocks[1][0][0][0] = 600;
        Subject x = Parts.open("a picture", Parts.fileOf(pic, 0));
        int[] one = new int[16];
        one[0] = 1;
        int[] two = one.clone();
        two[1] = 1;
        int[][] tables = {{0}, {1}, {16}, {17}};
        int[] want = Parts.join(tables[0], one, new int[] {1}, tables[1], one, new int[] {10}, tables[2], one,
            new int[] {1}, tables[3], two, new int[] {2, 3});
        x.saveAs(0, 0);
        Parts.same("of both components", Parts.contents(Parts.outputOf(x), 196, 0), want);
        x.saveAs(1, 0);
        Parts.same("of the first", Parts.contents(Parts.outputOf(x), 196, 0),
            Parts.join(tables[0], one, new int[] {1}, tables[2], one, new int[] {1}));
        Parts.same("of the second", Parts.contents(Parts.outputOf(x), 196, 1),
            Parts.join(tables[1], one, new int[] {10}, tables[3], two, new int[] {2, 3}));
        // What came in an earlier saving does not count.
        x.cropTo(0, 0, 1, 1);
        x.setCoefficient(1, 0, 0, 60, 2);
        x.setCoefficient(1, 0, 0, 61, 2);
        x.setCoefficient(1, 0, 0, 62, 2);
        x.setCoefficient(1, 0, 0, 63, 2);
        x.saveAs(1, 0);
        Parts.same("of the second, later", Parts.contents(Parts.outputOf(x), 196, 1),
            Parts.join(tables[1], one, new int[] {10}, tables[3], one, new int[] {2}));
        earlierSavings();
    }

    /** What came in an earlier saving, or in another scan of the same one, does not count. */
    private static void earlierSavings() {
        for (int script = 0; script < 3; script++) {
            Pair pair = new Pair("later savings by script " + script);
            Model.Pic pic = Parts.plain(8, 8, 4);
            for (int c = 0; c < 4; c++) {
                for (int k = 0; k < 64; k++) {
                    pic.blocks[c][0][0][k] = 1 << (k + c) % 10;
                }
            }
            pair.giveBytes(Parts.fileOf(pic, 0));
            pair.openInput();
            pair.saveAs(script, 0);
            Parts.same("at first", Parts.outputOf(pair.x), pair.m.output);
            for (int c = 0; c < 4; c++) {
                for (int k = 0; k < 64; k += c == 0 ? 5 : 3) {
                    pair.setCoefficient(c, 0, 0, k, 7 * c - k);
                }
            }
            pair.saveAs(script, 0);
            Parts.same("later", Parts.outputOf(pair.x), pair.m.output);
            pair.saveAs(script, 0);
            Parts.same("again", Parts.outputOf(pair.x), pair.m.output);
        }
    }

    /** Small numbers, so that many are alike. */
    private static void byChance() {
        Check.sentence("THE BEST TABLE for these (of all symbols that come at all, if there are any):");
        for (int round = 0; round < 60; round++) {
            Random random = new Random(round);
            Pair pair = new Pair("best words " + round);
            int across = 1 + random.nextInt(4);
            Model.Pic pic = Parts.plain(8 * across, 8, 1);
            int seldom = 1 + random.nextInt(30);
            for (int bx = 0; bx < across; bx++) {
                pic.blocks[0][0][bx][0] = random.nextInt(2048) - 1024 >> random.nextInt(10);
                for (int k = 1; k < 64; k++) {
                    pic.blocks[0][0][bx][k] = random.nextInt(seldom) == 0 ? random.nextInt(1024) >> random.nextInt(10) : 0;
                }
            }
            pair.giveBytes(Parts.fileOf(pic, 0));
            pair.openInput();
            for (int script = 0; script < 3; script++) {
                pair.saveAs(script, 0);
                Parts.same("script " + script, Parts.outputOf(pair.x), pair.m.output);
            }
        }
    }
}
