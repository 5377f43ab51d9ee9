import java.util.Arrays;
import java.util.Random;

/** Promises 5, 6 and 20: files made by chance, and such files spoilt by chance, against the model. */
public final class RandomFilesTest {
    /** So many can be given in about 400 calls, which leaves some to ask what came of them. */
    private static final int MOST_BYTES = 3200;

    public static void main(String[] args) {
        int rounds = args.length > 0 ? Integer.parseInt(args[0]) : 400;
        long seed = args.length > 1 ? Long.parseLong(args[1]) : 1;
        int[] faults = new int[20];
        for (int round = 0; round < rounds; round++) {
            Random random = new Random(seed * 1000003 + round);
            int side = round % 25 == 0 ? 64 : round % 5 == 0 ? 40 : 20;
            int[] file = new FileMaker(random, side).make();
            if (file.length > MOST_BYTES) {
                continue;
            }
            Pair pair = new Pair("seed " + seed + " round " + round);
            pair.giveBytes(file);
            faults[pair.openInput()]++;
            pair.compareStatus();
            pair.comparePicture();
            if (pair.m.picture != null && round % 3 == 0) {
                pair.saveAs(random.nextInt(3), random.nextBoolean() ? 0 : 1 + random.nextInt(4));
                pair.compareOutput();
            }
            for (int k = 0; k < 30; k++) {
                int[] other = k % 3 == 0 ? spoilSegment(file, random, k % 2 == 0 ? 218 : 196) : spoil(file, random);
                Pair next = new Pair("seed " + seed + " round " + round + " spoilt " + k);
                if (k % 10 == 0 && file.length < MOST_BYTES / 2) {
                    next.giveBytes(file);
                    next.openInput();
                }
                next.giveBytes(other);
                faults[next.openInput()]++;
                next.compareStatus();
                if (k % 10 == 0 || next.m.fault == 0 && k % 3 == 0) {
                    next.comparePicture();
                }
            }
        }
        System.out.println("faults 0 .. 16 came so often: " + Arrays.toString(Arrays.copyOf(faults, 17)));
        Check.end();
    }

    private static int[] spoil(int[] file, Random random) {
        int[] now = file.clone();
        for (int k = random.nextInt(3); k >= 0; k--) {
            int at = random.nextInt(now.length);
            switch (random.nextInt(8)) {
                case 0:
                    now[at] ^= 1 << random.nextInt(8);
                    break;
                case 1:
                    now[at] = random.nextInt(256);
                    break;
                case 2:
                    now[at] = Math.max(0, Math.min(255, now[at] + (random.nextBoolean() ? 1 : -1)));
                    break;
                case 3:
                    now = cut(now, at, 0, random.nextInt(256));
                    break;
                case 4:
                    now = cut(now, at, 1, -1);
                    break;
                case 5:
                    now = random.nextInt(4) == 0 && at > 0 ? Arrays.copyOf(now, at) : now;
                    break;
                case 6:
                    // A marker that starts there becomes another one.
                    for (int b = at; b + 1 < now.length; b++) {
                        if (now[b] == 255 && now[b + 1] > 190) {
                            int[] codes = {192, 194, 196, 208, 209, 215, 216, 217, 218, 219, 220, 221, 224, 254, 0, 255};
                            now[b + 1] = codes[random.nextInt(codes.length)];
                            break;
                        }
                    }
                    break;
                default:
                    // A byte of a segment's beginning.
                    for (int b = at; b + 9 < now.length; b++) {
                        if (now[b] == 255 && now[b + 1] > 190) {
                            int where = b + 2 + random.nextInt(8);
                            now[where] = random.nextBoolean() ? random.nextInt(256) : now[where] + 1 & 255;
                            break;
                        }
                    }
                    break;
            }
        }
        return now;
    }

    /** Other bytes in the data of a scan, or other symbols of words: the markers stay what they are. */
    private static int[] spoilSegment(int[] file, Random random, int code) {
        int[] now = file.clone();
        int start = random.nextInt(now.length);
        for (int k = 0; k + 3 < now.length; k++) {
            int b = (start + k) % (now.length - 3);
            if (now[b] == 255 && now[b + 1] == code) {
                int length = 256 * now[b + 2] + now[b + 3];
                int where = b + 2 + (code == 218 ? length + random.nextInt(12) : Math.max(2, length - random.nextInt(12)));
                if (where > 0 && where < now.length && now[where] != 255 && now[where - 1] != 255) {
                    now[where] = code == 218 ? random.nextInt(255) : now[where] ^ 1 << random.nextInt(8);
                }
                return now;
            }
        }
        return now;
    }

    /** Without so many bytes from there on, and with one more if it is not -1. */
    private static int[] cut(int[] file, int at, int gone, int more) {
        int[] now = new int[file.length - gone + (more < 0 ? 0 : 1)];
        System.arraycopy(file, 0, now, 0, at);
        int to = at;
        if (more >= 0) {
            now[to++] = more;
        }
        System.arraycopy(file, at + gone, now, to, file.length - at - gone);
        return now;
    }
}
