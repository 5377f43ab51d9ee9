import java.util.ArrayList;
import java.util.Arrays;
import java.util.List;
import java.util.Random;

/** Makes good files by chance: sequential and progressive, with all that the document lets stand in them. */
final class FileMaker {
    private final Random random;
    private final List<Integer> out = new ArrayList<>();
    private final Model.Pic pic = new Model.Pic();
    private final Model.Best[] dcTold = new Model.Best[4];
    private final Model.Best[] acTold = new Model.Best[4];
    private final int[] names = new int[4];
    private final int[] tableOf = new int[4];
    private final int[][] latest = new int[4][64];
    private final int mostBits;
    private int interval = 0;
    private boolean progressive;
    private boolean linesDue;

    FileMaker(Random random, int side) {
        this.random = random;
        this.mostBits = random.nextInt(30) == 0 ? 13 : random.nextInt(10);
        chooseFrame(side);
        chooseCoefficients();
    }

    private boolean chance(int of) {
        return random.nextInt(of) == 0;
    }

    private void chooseFrame(int side) {
        progressive = random.nextBoolean();
        pic.width = 1 + random.nextInt(side);
        pic.height = 1 + random.nextInt(side);
        pic.many = 1 + random.nextInt(4);
        int plain = random.nextInt(3);
        for (int c = 0; c < pic.many; c++) {
            pic.h[c] = plain == 0 ? 1 : 1 + random.nextInt(2);
            pic.v[c] = plain == 0 ? 1 : 1 + random.nextInt(2);
            tableOf[c] = random.nextInt(4);
            boolean again;
            do {
                names[c] = random.nextInt(256);
                again = false;
                for (int other = 0; other < c; other++) {
                    again |= names[other] == names[c];
                }
            } while (again);
            Arrays.fill(latest[c], -1);
        }
    }

    private void chooseCoefficients() {
        pic.makeBlocks();
        int seldom = 1 + random.nextInt(40);
        int size = 1 + random.nextInt(10);
        for (int c = 0; c < pic.many; c++) {
            for (int[][] row : pic.blocks[c]) {
                for (int[] block : row) {
                    block[0] = random.nextInt(3) == 0 ? random.nextInt(2048) - 1024 : random.nextInt(60) - 30;
                    for (int k = 1; k < 64; k++) {
                        int most = (1 << 1 + random.nextInt(size)) - 1;
                        block[k] = chance(seldom) ? random.nextInt(2 * most + 1) - most : 0;
                    }
                }
            }
        }
    }

    int[] make() {
        out.add(255);
        out.add(216);
        idle();
        quantisers(0, 4);
        words();
        frame();
        interval();
        if (progressive) {
            progressiveScans();
        } else {
            sequentialScans();
        }
        idle();
        marker(217);
        for (int k = random.nextInt(3); k > 0; k--) {
            out.add(random.nextInt(256));
        }
        return out.stream().mapToInt(b -> b).toArray();
    }

    private void marker(int code) {
        while (chance(6)) {
            out.add(255);
        }
        out.add(255);
        out.add(code);
    }

    private void segment(int code, List<Integer> contents) {
        marker(code);
        out.add(contents.size() + 2 >> 8);
        out.add(contents.size() + 2 & 255);
        out.addAll(contents);
    }

    /** Segments that tell nothing. */
    private void idle() {
        while (chance(5)) {
            List<Integer> contents = new ArrayList<>();
            for (int k = random.nextInt(5); k > 0; k--) {
                contents.add(random.nextInt(256));
            }
            segment(chance(3) ? 254 : 224 + random.nextInt(16), contents);
        }
    }

    private void quantisers(int from, int to) {
        List<Integer> contents = new ArrayList<>();
        for (int t = from; t < to; t++) {
            contents.add(t);
            for (int k = 0; k < 64; k++) {
                contents.add(1 + random.nextInt(chance(2) ? 255 : 9));
            }
            if (t + 1 == to || chance(2)) {
                segment(219, contents);
                contents = new ArrayList<>();
            }
        }
    }

    /** Tables that nobody may ever use. */
    private void words() {
        if (chance(6)) {
            int[] often = new int[256];
            for (int k = 0; k < 5; k++) {
                often[random.nextInt(12)]++;
            }
            int t = random.nextInt(4);
            dcTold[t] = Model.best(often);
            List<Integer> contents = new ArrayList<>();
            Model.table(contents, t, dcTold[t]);
            segment(196, contents);
        }
    }

    private void frame() {
        linesDue = chance(5);
        int height = linesDue ? 0 : pic.height;
        List<Integer> contents = new ArrayList<>(List.of(8, 0, height, 0, pic.width, pic.many));
        for (int c = 0; c < pic.many; c++) {
            contents.addAll(List.of(names[c], 16 * pic.h[c] + pic.v[c], tableOf[c]));
        }
        segment(progressive ? 194 : 192, contents);
    }

    private void interval() {
        if (chance(3)) {
            interval = chance(4) ? 0 : chance(4) ? random.nextInt(65536) : 1 + random.nextInt(5);
            segment(221, List.of(interval >> 8, interval & 255));
        }
    }

    private void sequentialScans() {
        List<Integer> left = new ArrayList<>();
        for (int c = 0; c < pic.many; c++) {
            left.add(c);
        }
        while (!left.isEmpty()) {
            int[] members = choose(left);
            for (int c : members) {
                left.remove((Integer) c);
            }
            scan(members, 0, 63, 0, 0);
        }
    }

    /** Some of these components, in order, that may be in one scan. */
    private int[] choose(List<Integer> from) {
        List<Integer> some = new ArrayList<>();
        int sum = 0;
        boolean all = random.nextBoolean();
        for (int c : from) {
            if ((all || random.nextBoolean()) && sum + pic.h[c] * pic.v[c] <= 10) {
                some.add(c);
                sum += pic.h[c] * pic.v[c];
            }
        }
        if (some.isEmpty()) {
            some.add(from.get(random.nextInt(from.size())));
        }
        return some.stream().mapToInt(c -> c).toArray();
    }

    private void progressiveScans() {
        int more = random.nextInt(12);
        for (int turn = 0; turn < 60; turn++) {
            boolean allSent = true;
            for (int c = 0; c < pic.many; c++) {
                allSent &= latest[c][0] >= 0;
            }
            if (allSent && more-- <= 0) {
                return;
            }
            if (!allSent && chance(3) || chance(4)) {
                directScan();
            } else {
                bandScan();
            }
        }
        for (int c = 0; c < pic.many; c++) {
            if (latest[c][0] < 0) {
                scan(new int[] {c}, 0, 0, 0, 0);
            }
        }
    }

    private void directScan() {
        int state = latest[random.nextInt(pic.many)][0];
        if (state == 0) {
            return;
        }
        List<Integer> alike = new ArrayList<>();
        for (int c = 0; c < pic.many; c++) {
            if (latest[c][0] == state) {
                alike.add(c);
            }
        }
        if (state < 0) {
            scan(choose(alike), 0, 0, 0, random.nextInt(mostBits + 1));
        } else {
            scan(choose(alike), 0, 0, state, state - 1);
        }
    }

    private void bandScan() {
        int c = random.nextInt(pic.many);
        int first = chance(2) ? 1 : 1 + random.nextInt(63);
        int state = latest[c][first];
        if (latest[c][0] < 0 || state == 0) {
            return;
        }
        int last = first;
        int most = chance(2) ? 63 : first + random.nextInt(10);
        while (last < Math.min(63, most) && latest[c][last + 1] == state) {
            last++;
        }
        if (state < 0) {
            scan(new int[] {c}, first, last, 0, random.nextInt(mostBits + 1));
        } else {
            scan(new int[] {c}, first, last, state, state - 1);
        }
    }

    private void scan(int[] members, int first, int last, int before, int bits) {
        idle();
        interval();
        Model.ScanTold told = new Model.ScanTold();
        told.components = members;
        told.first = first;
        told.last = last;
        told.before = before;
        told.bits = bits;
        told.interval = interval;
        Model.Coder coder = new Model.Coder(pic, told);
        coder.write();
        Model.Best[] dc = new Model.Best[members.length];
        Model.Best[] ac = new Model.Best[members.length];
        int[] dcNumber = new int[members.length];
        int[] acNumber = new int[members.length];
        for (int m = 0; m < members.length; m++) {
            dcNumber[m] = random.nextInt(4);
            acNumber[m] = random.nextInt(4);
        }
        if (first == 0 && before == 0) {
            tellTables(coder, 1, dcNumber, dcTold, 0, 12);
        }
        if (last > 0) {
            tellTables(coder, 2, acNumber, acTold, 16, 256);
        }
        if (chance(6)) {
            int t = random.nextInt(4);
            quantisers(t, t + 1);
        }
        List<Integer> contents = new ArrayList<>(List.of(members.length));
        for (int m = 0; m < members.length; m++) {
            dc[m] = dcTold[dcNumber[m]];
            ac[m] = acTold[acNumber[m]];
            contents.add(names[members[m]]);
            contents.add(16 * dcNumber[m] + acNumber[m]);
            for (int k = first; k <= last; k++) {
                latest[members[m]][k] = bits;
            }
        }
        contents.addAll(List.of(first, last, 16 * before + bits));
        segment(218, contents);
        out.addAll(Model.dataOf(coder.out, dc, ac));
        if (linesDue) {
            linesDue = false;
            segment(220, List.of(0, pic.height));
        }
    }

    /** Tells the tables of which these symbols need words, unless what was told before will do. */
    private void tellTables(Model.Coder coder, int which, int[] number, Model.Best[] told, int name, int most) {
        List<Integer> contents = new ArrayList<>();
        for (int t = 0; t < 4; t++) {
            int[] often = new int[256];
            boolean needed = false;
            for (int m = 0; m < number.length; m++) {
                if (number[m] == t) {
                    needed = true;
                    int[] more = Model.often(coder.out, which, m);
                    for (int s = 0; s < 256; s++) {
                        often[s] += more[s];
                    }
                }
            }
            if (!needed || told[t] != null && chance(2) && has(told[t], often)) {
                continue;
            }
            for (int k = random.nextInt(8); k > 0; k--) {
                often[random.nextInt(most)] += 1 + random.nextInt(20);
            }
            told[t] = chance(5) ? flat(often, most) : Model.best(often);
            Model.table(contents, name + t, told[t]);
            if (chance(2)) {
                segment(196, contents);
                contents = new ArrayList<>();
            }
        }
        if (!contents.isEmpty()) {
            segment(196, contents);
        }
    }

    private static boolean has(Model.Best table, int[] often) {
        for (int s = 0; s < 256; s++) {
            if (often[s] > 0 && !table.words.containsKey(s)) {
                return false;
            }
        }
        return true;
    }

    /** Words of one length, longer than need be, in any order of the symbols. */
    private Model.Best flat(int[] often, int most) {
        Model.Best table = new Model.Best();
        for (int s = 0; s < most; s++) {
            if (often[s] > 0 || chance(9)) {
                table.symbols.add(s);
            }
        }
        java.util.Collections.shuffle(table.symbols, random);
        int length = Model.Coder.size(table.symbols.size()) + random.nextInt(16 - 9);
        // A count is one byte, so all 256 symbols can not have one length.
        if (table.symbols.size() > 255) {
            return Model.best(often);
        }
        table.counts[length] = table.symbols.size();
        Model.name(table);
        return table;
    }
}
