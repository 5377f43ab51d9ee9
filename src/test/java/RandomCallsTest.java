import java.util.Random;

/** Promises 2 to 20: calls by chance, good and bad, against the model. */
public final class RandomCallsTest {
    /** What has been told must be told again by a new object, so that it leaves so many calls to ask with. */
    private static final int LEFT_TO_ASK = 150;

    public static void main(String[] args) {
        int rounds = args.length > 0 ? Integer.parseInt(args[0]) : 150;
        long seed = args.length > 1 ? Long.parseLong(args[1]) : 1;
        for (int round = 0; round < rounds; round++) {
            Random random = new Random(seed * 7919 + round);
            Pair pair = new Pair("seed " + seed + " round " + round);
            for (int call = 0; call < 60 && pair.x.left() > LEFT_TO_ASK + 100; call++) {
                oneCall(pair, random);
            }
            pair.compareAll();
        }
        Check.end();
    }

    /** Mostly a number of these bounds, at times one just beyond, at times any number. */
    private static int about(Random random, int least, int most) {
        int which = random.nextInt(60);
        if (which == 0) {
            return random.nextInt();
        }
        if (which == 1) {
            return least - 1;
        }
        if (which == 2) {
            return most + 1;
        }
        return which < 8 ? least : which < 14 ? most : least + random.nextInt(most - least + 1);
    }

    private static void oneCall(Pair pair, Random random) {
        switch (random.nextInt(16)) {
            case 0:
                pair.giveInput(random.nextLong(), about(random, 1, 8));
                break;
            case 1:
                if (random.nextInt(4) == 0) {
                    pair.wipeInput();
                }
                break;
            case 2:
                pair.takeOutput();
                pair.openInput();
                pair.comparePicture();
                break;
            case 3:
                pair.openInput();
                break;
            case 4:
                int[] file = new FileMaker(random, random.nextInt(4) == 0 ? 64 : 24).make();
                if (file.length <= 8 * (pair.x.left() - LEFT_TO_ASK)) {
                    pair.giveBytes(file);
                    pair.openInput();
                }
                break;
            case 5:
                pair.saveAs(about(random, 0, 2), random.nextBoolean() ? 0 : about(random, 0, random.nextBoolean() ? 8 : 65535));
                pair.compareOutput();
                break;
            case 6:
            case 7:
                paint(pair, random);
                break;
            case 8:
            case 9:
                pair.showAt(random.nextInt(9) == 0 ? about(random, 0, 9) : 1 << random.nextInt(4), random.nextBoolean());
                break;
            case 10:
                pair.turnBy(about(random, 0, 5));
                break;
            case 11:
                crop(pair, random);
                break;
            case 12:
                for (int k = 0; k < 10; k++) {
                    pair.setCoefficient(about(random, 0, 3), about(random, 0, 3), about(random, 0, 3),
                        about(random, 0, 63), about(random, -1024, 1023));
                }
                break;
            case 13:
                pair.canvasSize(about(random, 0, 3), about(random, 1, 32), about(random, 1, 32));
                break;
            case 14:
                for (int k = 0; k < 10; k++) {
                    pair.canvasRow(about(random, 0, 3), about(random, 0, 31), about(random, 0, 31), random.nextLong());
                }
                break;
            default:
                pair.mixCanvas(about(random, 0, 6));
                pair.compareCanvas();
                break;
        }
        pair.compareStatus();
    }

    private static void crop(Pair pair, Random random) {
        int x = about(random, 0, 2);
        int y = about(random, 0, 2);
        pair.cropTo(x, y, about(random, 1, 4), about(random, 1, 4));
    }

    /** Mostly all planes get one size and new samples first; rough ones and smooth ones. */
    private static void paint(Pair pair, Random random) {
        boolean small = random.nextInt(6) > 0 || pair.x.left() < 400;
        int w = about(random, 1, small ? 10 : 32);
        int h = about(random, 1, small ? 8 : 18);
        int many = about(random, 1, 4);
        boolean rough = random.nextBoolean();
        for (int p = 0; p < Math.min(4, many) && random.nextInt(20) > 0; p++) {
            pair.canvasSize(p, w, h);
            for (int y = 0; y < h && y < 32; y++) {
                for (int x = 0; x < w && x < 32 && pair.x.left() > LEFT_TO_ASK; x += 8) {
                    long eight = 0;
                    for (int k = 0; k < 8; k++) {
                        int sample = rough ? random.nextInt(4) == 0 ? 255 * random.nextInt(2) : random.nextInt(256)
                            : 8 * y + 5 * (x + k) + random.nextInt(4);
                        eight = eight << 8 | sample & 255;
                    }
                    pair.canvasRow(p, x, y, eight);
                }
            }
        }
        int shape = random.nextInt(30) == 0 ? random.nextInt() : random.nextInt(1 << 2 * Math.max(1, Math.min(4, many)));
        int percent = random.nextInt(3) == 0 ? about(random, 1, 5000) : about(random, 1, 300);
        pair.paintFrom(w, h, many, shape, percent);
        pair.comparePicture();
    }
}
