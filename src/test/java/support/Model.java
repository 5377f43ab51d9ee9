import java.util.ArrayList;
import java.util.HashMap;
import java.util.List;
import java.util.Map;
import java.util.TreeMap;

/**
 * The document once more, told as literally as possible and without any care for speed or room:
 * bits are texts, words are looked up in maps, faults are thrown. WavePictures is compared with it.
 */
final class Model {
    static final int[][] PLACES = zigzag();

    /** A fault with its place. */
    static final class Fault extends RuntimeException {
        private static final long serialVersionUID = 1;
        final int number;
        final int place;

        Fault(int number, int place) {
            super(null, null, false, false);
            this.number = number;
            this.place = place;
        }
    }

    /** A frame with coefficients [component][row of blocks][block][k] and steps [component][k]. */
    static final class Pic {
        int width;
        int height;
        int many;
        int[] h = new int[4];
        int[] v = new int[4];
        int[][][][] blocks = new int[4][][][];
        int[][] steps = new int[4][64];

        int hm() {
            int most = 1;
            for (int c = 0; c < many; c++) {
                most = Math.max(most, h[c]);
            }
            return most;
        }

        int vm() {
            int most = 1;
            for (int c = 0; c < many; c++) {
                most = Math.max(most, v[c]);
            }
            return most;
        }

        int unitsAcross() {
            return ceil(width, 8 * hm());
        }

        int unitsDown() {
            return ceil(height, 8 * vm());
        }

        int across(int c) {
            return h[c] * unitsAcross();
        }

        int down(int c) {
            return v[c] * unitsDown();
        }

        int ownAcross(int c) {
            return ceil(ceil(width * h[c], hm()), 8);
        }

        int ownDown(int c) {
            return ceil(ceil(height * v[c], vm()), 8);
        }

        int countBlocks() {
            int count = 0;
            for (int c = 0; c < many; c++) {
                count += across(c) * down(c);
            }
            return count;
        }

        void makeBlocks() {
            for (int c = 0; c < many; c++) {
                blocks[c] = new int[down(c)][across(c)][64];
            }
        }
    }

    /** A scan: components, FIRST, LAST, BEFORE, BITS; as read also its tables, interval and data. */
    static final class ScanTold {
        int[] components;
        int first;
        int last;
        int before;
        int bits;
        List<Map<String, Integer>> dc = new ArrayList<>();
        List<Map<String, Integer>> ac = new ArrayList<>();
        int interval;
        /** The bits between restarts. */
        List<StringBuilder> stretches = new ArrayList<>();
    }

    int[] input = new int[0];
    int[] output = new int[0];
    Pic picture;
    int[][][] planes = {{{0}}, {{0}}, {{0}}, {{0}}};
    int fault;
    int place = -1;
    int scans;
    int segments;
    int opened;
    /** How many bytes the latest saving would have had, if there were room. */
    int wouldBe;

    static int ceil(int a, int b) {
        return (a + b - 1) / b;
    }

    private static int[][] zigzag() {
        List<int[]> all = new ArrayList<>();
        for (int sum = 0; sum <= 14; sum++) {
            for (int step = 0; step <= 7; step++) {
                int greatest = 7 - step;
                int other = sum - greatest;
                if (other >= 0 && other <= 7) {
                    all.add(sum % 2 == 1 ? new int[] {other, greatest} : new int[] {greatest, other});
                }
            }
        }
        return all.toArray(new int[0][]);
    }

    static int placeNumber(int v, int u) {
        for (int k = 0; k < 64; k++) {
            if (PLACES[k][0] == v && PLACES[k][1] == u) {
                return k;
            }
        }
        throw new IllegalStateException();
    }

    // ---- reading a file ----

    private int at;
    private int end;
    private int lengthAt;
    private int[][] quantisers;
    private List<Map<String, Integer>> dcTables;
    private List<Map<String, Integer>> acTables;
    private int interval;
    private int kind;
    private int[] names;
    private int[] tableOf;
    private boolean told0Height;
    private boolean linesDue;
    private Pic reading;
    private int[][] latest;
    private List<ScanTold> toldScans;
    private int toldSegments;

    int openInput() {
        try {
            readFile();
            fault = 0;
            place = -1;
            picture = reading;
            scans = toldScans.size();
            segments = toldSegments;
            opened++;
        } catch (Fault f) {
            fault = f.number;
            place = f.place;
        }
        return fault;
    }

    private void readFile() {
        quantisers = new int[4][];
        dcTables = new ArrayList<>();
        acTables = new ArrayList<>();
        for (int t = 0; t < 4; t++) {
            dcTables.add(null);
            acTables.add(null);
        }
        interval = 0;
        kind = 0;
        told0Height = false;
        linesDue = false;
        reading = null;
        toldScans = new ArrayList<>();
        toldSegments = 0;
        at = 0;
        if (next() != 255) {
            throw new Fault(2, 0);
        }
        if (next() != 216) {
            throw new Fault(2, 0);
        }
        while (true) {
            int code = marker();
            if (code == 217) {
                break;
            }
            toldSegments++;
            segment(code);
        }
        if (reading.countBlocks() > 192) {
            throw new Fault(9, -1);
        }
        reading.makeBlocks();
        for (int s = 0; s < toldScans.size(); s++) {
            if (toldScans.get(s).bits > 9) {
                throw new Fault(10, s);
            }
            try {
                new Decoder(reading, toldScans.get(s)).read();
            } catch (Fault f) {
                throw new Fault(10 + f.number, s);
            }
        }
    }

    private int next() {
        if (at >= input.length) {
            throw new Fault(1, input.length);
        }
        return input[at++];
    }

    private int marker() {
        int start = at;
        if (next() != 255) {
            throw new Fault(3, start);
        }
        int code = next();
        while (code == 255) {
            code = next();
        }
        boolean can = code >= 224 && code <= 239 || code == 254 || code == 219 || code == 196 || code == 221;
        if (code == 192 || code == 194) {
            can = kind == 0;
        }
        if (code == 218) {
            can = kind != 0;
        }
        if (code == 217) {
            can = kind != 0;
            for (int c = 0; can && c < reading.many; c++) {
                can = latest[c][0] >= 0;
            }
        }
        if (linesDue || code == 220) {
            can = linesDue && code == 220;
        }
        if (!can) {
            throw new Fault(4, at - 1);
        }
        return code;
    }

    /** The next byte of the contents. */
    private int inside() {
        if (at == end) {
            throw new Fault(5, lengthAt);
        }
        return next();
    }

    private void want(boolean good) {
        if (!good) {
            throw new Fault(6, at - 1);
        }
    }

    private void segment(int code) {
        lengthAt = at;
        int length = 256 * next();
        length += next();
        if (length < 2) {
            throw new Fault(5, lengthAt);
        }
        end = lengthAt + length;
        if (code == 219) {
            do {
                int table = inside();
                want(table <= 3);
                int[] steps = new int[64];
                for (int k = 0; k < 64; k++) {
                    steps[k] = inside();
                    want(steps[k] != 0);
                }
                quantisers[table] = steps;
            } while (at != end);
        } else if (code == 196) {
            do {
                wordTable();
            } while (at != end);
        } else if (code == 221) {
            interval = 256 * inside();
            interval += inside();
        } else if (code == 192 || code == 194) {
            frame(code);
        } else if (code == 218) {
            scan();
            return;
        } else if (code == 220) {
            int lines = 256 * inside();
            lines += inside();
            want(lines >= 1 && lines <= 64);
            reading.height = lines;
            linesDue = false;
        } else {
            while (at != end) {
                inside();
            }
        }
        if (at != end) {
            throw new Fault(5, lengthAt);
        }
    }

    private void wordTable() {
        int name = inside();
        want(name <= 3 || name >= 16 && name <= 19);
        List<String> words = new ArrayList<>();
        String word = null;
        for (int length = 1; length <= 16; length++) {
            int count = inside();
            for (int n = 0; n < count; n++) {
                word = nextWord(word, length);
                want(word != null && word.indexOf('0') >= 0);
                words.add(word);
                want(words.size() <= 256);
            }
        }
        want(!words.isEmpty());
        Map<String, Integer> table = new HashMap<>();
        for (String w : words) {
            int symbol = inside();
            want(!table.containsValue(symbol) && (name > 3 || symbol <= 11));
            table.put(w, symbol);
        }
        if (name <= 3) {
            dcTables.set(name, table);
        } else {
            acTables.set(name - 16, table);
        }
    }

    /** Null if it would be more than all 1s. */
    private static String nextWord(String before, int length) {
        if (before == null) {
            return "0".repeat(length);
        }
        long number = Long.parseLong(before, 2) + 1 << length - before.length();
        String word = Long.toBinaryString(number);
        return word.length() > length ? null : "0".repeat(length - word.length()) + word;
    }

    private void frame(int code) {
        want(inside() == 8);
        reading = new Pic();
        reading.height = 256 * inside();
        reading.height += inside();
        want(reading.height <= 64);
        told0Height = reading.height == 0;
        reading.width = 256 * inside();
        reading.width += inside();
        want(reading.width >= 1 && reading.width <= 64);
        reading.many = inside();
        want(reading.many >= 1 && reading.many <= 4);
        names = new int[reading.many];
        tableOf = new int[reading.many];
        for (int c = 0; c < reading.many; c++) {
            names[c] = inside();
            for (int other = 0; other < c; other++) {
                want(names[other] != names[c]);
            }
            int shape = inside();
            reading.h[c] = shape >> 4;
            reading.v[c] = shape & 15;
            want(reading.h[c] >= 1 && reading.h[c] <= 2 && reading.v[c] >= 1 && reading.v[c] <= 2);
            tableOf[c] = inside();
            want(tableOf[c] <= 3);
        }
        kind = code;
        latest = new int[reading.many][64];
        for (int[] row : latest) {
            java.util.Arrays.fill(row, -1);
        }
    }

    private void scan() {
        ScanTold told = new ScanTold();
        int many = inside();
        want(many >= 1 && many <= 4);
        told.components = new int[many];
        int[] nameAt = new int[many];
        int[] tables = new int[many];
        int sum = 0;
        for (int m = 0; m < many; m++) {
            int name = inside();
            nameAt[m] = at - 1;
            int c = -1;
            for (int k = 0; k < reading.many; k++) {
                if (names[k] == name) {
                    c = k;
                }
            }
            if (c < 0 || m > 0 && c <= told.components[m - 1]) {
                throw new Fault(7, at - 1);
            }
            told.components[m] = c;
            sum += reading.h[c] * reading.v[c];
            want(many == 1 || sum <= 10);
            tables[m] = inside();
            want(tables[m] >> 4 <= 3 && (tables[m] & 15) <= 3);
        }
        band(told, many);
        for (int m = 0; m < many; m++) {
            sent(told, told.components[m], nameAt[m]);
        }
        for (int m = 0; m < many; m++) {
            int[] steps = quantisers[tableOf[told.components[m]]];
            if (steps == null) {
                throw new Fault(8, nameAt[m]);
            }
            Map<String, Integer> dc = dcTables.get(tables[m] >> 4);
            Map<String, Integer> ac = acTables.get(tables[m] & 15);
            if (told.first == 0 && told.before == 0 && dc == null || told.last > 0 && ac == null) {
                throw new Fault(8, nameAt[m] + 1);
            }
            told.dc.add(dc);
            told.ac.add(ac);
        }
        if (at != end) {
            throw new Fault(5, lengthAt);
        }
        for (int c : told.components) {
            if (latest[c][0] < 0) {
                reading.steps[c] = quantisers[tableOf[c]];
            }
            for (int k = told.first; k <= told.last; k++) {
                latest[c][k] = told.bits;
            }
        }
        told.interval = interval;
        data(told);
        toldScans.add(told);
        linesDue = told0Height && toldScans.size() == 1;
    }

    private void band(ScanTold told, int many) {
        told.first = inside();
        want(kind == 192 ? told.first == 0 : told.first <= 63 && (told.first == 0 || many == 1));
        told.last = inside();
        if (kind == 192) {
            want(told.last == 63);
        } else {
            want(told.first == 0 ? told.last == 0 : told.last >= told.first && told.last <= 63);
        }
        int both = inside();
        told.before = both >> 4;
        told.bits = both & 15;
        want(kind == 192 ? both == 0 : told.bits <= 13 && (told.before == 0 || told.before == told.bits + 1));
    }

    private void sent(ScanTold told, int c, int nameAt) {
        if (kind == 192 && latest[c][0] >= 0) {
            throw new Fault(7, nameAt);
        }
        if (kind == 194 && told.first > 0 && latest[c][0] < 0) {
            throw new Fault(7, nameAt);
        }
        for (int k = told.first; k <= told.last; k++) {
            if (latest[c][k] < 0) {
                want(told.before == 0);
            } else {
                want(told.before == told.bits + 1 && told.before == latest[c][k]);
            }
        }
    }

    private void data(ScanTold told) {
        int restarts = 0;
        StringBuilder bits = new StringBuilder();
        told.stretches.add(bits);
        while (true) {
            int value = next();
            if (value == 255) {
                int behind = next();
                if (behind != 0) {
                    if (interval == 0 || behind != 208 + restarts % 8) {
                        at -= 2;
                        return;
                    }
                    restarts++;
                    bits = new StringBuilder();
                    told.stretches.add(bits);
                    continue;
                }
            }
            bits.append(Integer.toBinaryString(256 + value).substring(1));
        }
    }

    /** Goes over the units of a scan; what to do with each block is left to others. */
    abstract static class Walk {
        final Pic pic;
        final ScanTold told;

        Walk(Pic pic, ScanTold told) {
            this.pic = pic;
            this.told = told;
        }

        abstract void block(int member, int[] block);

        abstract void restart();

        void go() {
            int unit = 0;
            if (told.components.length == 1) {
                int c = told.components[0];
                for (int by = 0; by < pic.ownDown(c); by++) {
                    for (int bx = 0; bx < pic.ownAcross(c); bx++) {
                        aheadOf(unit++);
                        block(0, pic.blocks[c][by][bx]);
                    }
                }
                return;
            }
            for (int uy = 0; uy < pic.unitsDown(); uy++) {
                for (int ux = 0; ux < pic.unitsAcross(); ux++) {
                    aheadOf(unit++);
                    for (int m = 0; m < told.components.length; m++) {
                        int c = told.components[m];
                        for (int y = 0; y < pic.v[c]; y++) {
                            for (int x = 0; x < pic.h[c]; x++) {
                                block(m, pic.blocks[c][uy * pic.v[c] + y][ux * pic.h[c] + x]);
                            }
                        }
                    }
                }
            }
        }

        private void aheadOf(int unit) {
            if (told.interval > 0 && unit > 0 && unit % told.interval == 0) {
                restart();
            }
        }
    }

    static final class Decoder extends Walk {
        private int stretch = 0;
        private int taken = 0;
        private int[] prediction = new int[4];
        private int run = 0;

        Decoder(Pic pic, ScanTold told) {
            super(pic, told);
        }

        void read() {
            go();
            close();
            if (stretch != told.stretches.size() - 1) {
                throw new Fault(5, 0);
            }
        }

        @Override
        void restart() {
            close();
            stretch++;
            taken = 0;
            if (stretch == told.stretches.size()) {
                throw new Fault(5, 0);
            }
            prediction = new int[4];
        }

        private void close() {
            if (run > 0) {
                throw new Fault(5, 0);
            }
            String rest = told.stretches.get(stretch).substring(taken);
            if (rest.length() >= 8 || rest.indexOf('0') >= 0) {
                throw new Fault(5, 0);
            }
        }

        private int bit() {
            if (taken >= told.stretches.get(stretch).length()) {
                throw new Fault(1, 0);
            }
            return told.stretches.get(stretch).charAt(taken++) - '0';
        }

        private int bits(int n) {
            int value = 0;
            for (int k = 0; k < n; k++) {
                value = value * 2 + bit();
            }
            return value;
        }

        private int number(int size) {
            if (size == 0) {
                return 0;
            }
            int value = bits(size);
            return value >= 1 << size - 1 ? value : value + 1 - (1 << size);
        }

        private int symbol(Map<String, Integer> table) {
            String word = "";
            while (true) {
                if (table.containsKey(word)) {
                    return table.get(word);
                }
                boolean begins = false;
                for (String w : table.keySet()) {
                    begins |= w.startsWith(word);
                }
                if (!begins) {
                    throw new Fault(2, 0);
                }
                word += bit();
            }
        }

        private int can(int value, int k) {
            if (value > 1023 || value < (k == 0 ? -1024 : -1023)) {
                throw new Fault(4, 0);
            }
            return value;
        }

        private static void must(boolean good) {
            if (!good) {
                throw new Fault(3, 0);
            }
        }

        @Override
        void block(int m, int[] block) {
            boolean whole = told.first == 0 && told.last == 63;
            if (told.first == 0) {
                if (told.before == 0) {
                    int size = symbol(told.dc.get(m));
                    must(size <= 11);
                    prediction[m] += number(size);
                    block[0] = can(prediction[m] << told.bits, 0);
                } else if (bit() == 1) {
                    block[0] |= 1 << told.bits;
                }
            }
            if (whole) {
                others(m, block, 1, true);
            } else if (told.first > 0 && told.before == 0) {
                if (run > 0) {
                    run--;
                } else {
                    others(m, block, told.first, false);
                }
            } else if (told.first > 0) {
                refine(m, block);
            }
        }

        private void others(int m, int[] block, int from, boolean whole) {
            int k = from;
            while (k <= told.last) {
                int symbol = symbol(told.ac.get(m));
                int r = symbol >> 4;
                int s = symbol & 15;
                must(s <= 10);
                if (s == 0 && r < 15) {
                    must(!whole || r == 0);
                    if (!whole) {
                        run = (1 << r) + bits(r) - 1;
                    }
                    return;
                }
                must(k + r <= told.last);
                k += r;
                if (s > 0) {
                    int v = number(s);
                    int amount = Math.abs(v) << told.bits;
                    block[k] = can(v < 0 ? -amount : amount, k);
                }
                k++;
            }
        }

        private void refine(int m, int[] block) {
            int k = told.first;
            while (k <= told.last) {
                int r = 1000;
                int s = 0;
                if (run == 0) {
                    int symbol = symbol(told.ac.get(m));
                    r = symbol >> 4;
                    s = symbol & 15;
                    must(s <= 1);
                    if (s == 0 && r < 15) {
                        run = (1 << r) + bits(r);
                        r = 1000;
                    }
                }
                int sign = s == 1 ? bit() == 1 ? 1 : -1 : 0;
                boolean ended = false;
                while (k <= told.last && !ended) {
                    if (block[k] != 0) {
                        int amount = Math.abs(block[k]);
                        if (bit() == 1) {
                            amount |= 1 << told.bits;
                        }
                        block[k] = can(block[k] < 0 ? -amount : amount, k);
                    } else if (r > 0) {
                        r--;
                    } else {
                        block[k] = sign * (1 << told.bits);
                        ended = true;
                    }
                    k++;
                }
                if (run > 0) {
                    run--;
                    return;
                }
                must(ended);
            }
        }
    }

    // ---- writing ----

    /** Texts of bits, with a symbol as (table, symbol) until the tables are known. */
    static final class Coder extends Walk {
        /** Entries: {0, bit}, {1, DC table of member, symbol}, {2, AC table of member, symbol}, {3} a restart. */
        final List<int[]> out = new ArrayList<>();
        private int[] prediction = new int[4];
        private int run = 0;
        private List<Integer> runBits = new ArrayList<>();
        private List<Integer> toCome = new ArrayList<>();

        Coder(Pic pic, ScanTold told) {
            super(pic, told);
        }

        void write() {
            go();
            sendRun(0);
        }

        @Override
        void restart() {
            sendRun(0);
            out.add(new int[] {3});
            prediction = new int[4];
        }

        private void bits(int value, int n) {
            for (int k = n - 1; k >= 0; k--) {
                out.add(new int[] {0, value >> k & 1});
            }
        }

        static int size(int number) {
            int amount = Math.abs(number);
            int size = 0;
            while (amount > 0) {
                amount /= 2;
                size++;
            }
            return size;
        }

        private void number(int d) {
            bits(d > 0 ? d : d - 1, size(d));
        }

        private void other(int m, int symbol) {
            out.add(new int[] {2, m, symbol});
        }

        private void sendRun(int m) {
            if (run > 0) {
                int n = size(run) - 1;
                other(m, 16 * n);
                bits(run, n);
                for (int b : runBits) {
                    bits(b, 1);
                }
                run = 0;
                runBits = new ArrayList<>();
            }
        }

        private void sendToCome() {
            for (int b : toCome) {
                bits(b, 1);
            }
            toCome = new ArrayList<>();
        }

        @Override
        void block(int m, int[] block) {
            if (told.first == 0 && told.before == 0) {
                int v = block[0] >> told.bits;
                int d = v - prediction[m];
                prediction[m] = v;
                out.add(new int[] {1, m, size(d)});
                number(d);
            } else if (told.first == 0) {
                bits(block[0] >> told.bits, 1);
            }
            if (told.last == 0) {
                return;
            }
            if (told.before == 0) {
                others(m, block);
            } else {
                refine(m, block);
            }
        }

        private void others(int m, int[] block) {
            int r = 0;
            for (int k = Math.max(told.first, 1); k <= told.last; k++) {
                int v = block[k] < 0 ? -(-block[k] >> told.bits) : block[k] >> told.bits;
                if (v == 0) {
                    r++;
                    continue;
                }
                sendRun(m);
                while (r > 15) {
                    other(m, 240);
                    r -= 16;
                }
                other(m, 16 * r + size(v));
                number(v);
                r = 0;
            }
            if (r > 0 && told.first == 0) {
                other(m, 0);
            } else if (r > 0) {
                run++;
                if (run == 32767) {
                    sendRun(m);
                }
            }
        }

        private void refine(int m, int[] block) {
            int l = -1;
            for (int k = told.first; k <= told.last; k++) {
                if (Math.abs(block[k]) >> told.bits == 1) {
                    l = k;
                }
            }
            int r = 0;
            for (int k = told.first; k <= told.last; k++) {
                int u = Math.abs(block[k]) >> told.bits;
                if (u == 0) {
                    r++;
                    continue;
                }
                while (r > 15 && k <= l) {
                    sendRun(m);
                    other(m, 240);
                    sendToCome();
                    r -= 16;
                }
                if (u > 1) {
                    toCome.add(u % 2);
                } else {
                    sendRun(m);
                    other(m, 16 * r + 1);
                    bits(block[k] < 0 ? 0 : 1, 1);
                    sendToCome();
                    r = 0;
                }
            }
            if (r > 0 || !toCome.isEmpty()) {
                run++;
                runBits.addAll(toCome);
                toCome = new ArrayList<>();
                if (run == 32767 || runBits.size() > 900) {
                    sendRun(m);
                }
            }
        }
    }

    /** A table as it is told: sixteen counts and the symbols; with the word of each symbol. */
    static final class Best {
        final int[] counts = new int[17];
        final List<Integer> symbols = new ArrayList<>();
        final Map<Integer, String> words = new HashMap<>();
    }

    static Best best(int[] often) {
        TreeMap<Integer, Integer> groups = new TreeMap<>();
        Map<Integer, List<Integer>> inGroup = new HashMap<>();
        int[] bits = new int[257];
        for (int s = 0; s <= 256; s++) {
            int number = s == 256 ? 1 : often[s];
            if (number > 0) {
                groups.put(s, number);
                inGroup.put(s, new ArrayList<>(List.of(s)));
            }
        }
        while (groups.size() > 1) {
            int a = least(groups, -1);
            int b = least(groups, a);
            inGroup.get(a).addAll(inGroup.remove(b));
            for (int p : inGroup.get(a)) {
                bits[p]++;
            }
            groups.put(a, groups.get(a) + groups.remove(b));
        }
        int[] counts = new int[300];
        for (int p = 0; p <= 256; p++) {
            if (bits[p] > 0) {
                counts[bits[p]]++;
            }
        }
        for (int l = 299; l > 16; l--) {
            while (counts[l] > 0) {
                int j = l - 2;
                while (counts[j] == 0) {
                    j--;
                }
                counts[l] -= 2;
                counts[l - 1]++;
                counts[j + 1] += 2;
                counts[j]--;
            }
        }
        int greatest = 16;
        while (counts[greatest] == 0) {
            greatest--;
        }
        counts[greatest]--;
        Best best = new Best();
        System.arraycopy(counts, 0, best.counts, 0, 17);
        for (int length = 1; length < 300; length++) {
            for (int s = 0; s < 256; s++) {
                if (bits[s] == length) {
                    best.symbols.add(s);
                }
            }
        }
        name(best);
        return best;
    }

    /** Gives the symbols their words. */
    static void name(Best best) {
        String word = null;
        int n = 0;
        for (int length = 1; length <= 16; length++) {
            for (int k = 0; k < best.counts[length]; k++) {
                word = nextWord(word, length);
                best.words.put(best.symbols.get(n++), word);
            }
        }
    }

    private static int least(TreeMap<Integer, Integer> groups, int but) {
        int found = -1;
        for (int p : groups.keySet()) {
            if (p != but && (found < 0 || groups.get(p) <= groups.get(found))) {
                found = p;
            }
        }
        return found;
    }

    /** The entries as bytes of data. */
    static List<Integer> dataOf(List<int[]> entries, Best[] dc, Best[] ac) {
        List<Integer> out = new ArrayList<>();
        StringBuilder bits = new StringBuilder();
        int restarts = 0;
        for (int[] e : entries) {
            if (e[0] == 0) {
                bits.append(e[1]);
            } else if (e[0] == 3) {
                flush(bits, out);
                out.add(255);
                out.add(208 + restarts++ % 8);
            } else {
                bits.append((e[0] == 1 ? dc : ac)[e[1]].words.get(e[2]));
            }
        }
        flush(bits, out);
        return out;
    }

    private static void flush(StringBuilder bits, List<Integer> out) {
        while (bits.length() % 8 != 0) {
            bits.append('1');
        }
        for (int k = 0; k < bits.length(); k += 8) {
            int value = Integer.parseInt(bits.substring(k, k + 8), 2);
            out.add(value);
            if (value == 255) {
                out.add(0);
            }
        }
        bits.setLength(0);
    }

    static int[] often(List<int[]> entries, int which, int member) {
        int[] often = new int[256];
        for (int[] e : entries) {
            if (e[0] == which && e[1] == member) {
                often[e[2]]++;
            }
        }
        return often;
    }

    private static void two(List<Integer> out, int number) {
        out.add(number >> 8);
        out.add(number & 255);
    }

    static void segment(List<Integer> out, int code, List<Integer> contents) {
        out.add(255);
        out.add(code);
        two(out, contents.size() + 2);
        out.addAll(contents);
    }

    static void table(List<Integer> contents, int name, Best best) {
        contents.add(name);
        for (int length = 1; length <= 16; length++) {
            contents.add(best.counts[length]);
        }
        contents.addAll(best.symbols);
    }

    private static ScanTold told(int first, int last, int before, int bits, int... components) {
        ScanTold t = new ScanTold();
        t.first = first;
        t.last = last;
        t.before = before;
        t.bits = bits;
        t.components = components;
        return t;
    }

    private static void addEach(List<ScanTold> script, int many, int first, int last, int before, int bits) {
        for (int c = 0; c < many; c++) {
            script.add(told(first, last, before, bits, c));
        }
    }

    private void addAll(List<ScanTold> script, int first, int last, int before, int bits) {
        int sum = 0;
        int[] all = new int[picture.many];
        for (int c = 0; c < picture.many; c++) {
            sum += picture.h[c] * picture.v[c];
            all[c] = c;
        }
        if (sum > 10) {
            addEach(script, picture.many, first, last, before, bits);
        } else {
            script.add(told(first, last, before, bits, all));
        }
    }

    int saveAs(int script, int unitsBetween) {
        if (picture == null || script < 0 || script > 2 || unitsBetween < 0 || unitsBetween > 65535) {
            return -1;
        }
        List<ScanTold> list = new ArrayList<>();
        if (script == 0) {
            addAll(list, 0, 63, 0, 0);
        } else if (script == 1) {
            addEach(list, picture.many, 0, 63, 0, 0);
        } else {
            addAll(list, 0, 0, 0, 1);
            addEach(list, picture.many, 1, 5, 0, 2);
            addEach(list, picture.many, 6, 63, 0, 2);
            addEach(list, picture.many, 1, 63, 2, 1);
            addAll(list, 0, 0, 1, 0);
            addEach(list, picture.many, 1, 63, 1, 0);
        }
        List<Integer> out = new ArrayList<>(List.of(255, 216));
        List<Integer> contents = new ArrayList<>();
        for (int c = 0; c < picture.many; c++) {
            contents.add(c);
            for (int k = 0; k < 64; k++) {
                contents.add(picture.steps[c][k]);
            }
        }
        segment(out, 219, contents);
        contents = new ArrayList<>(List.of(8));
        two(contents, picture.height);
        two(contents, picture.width);
        contents.add(picture.many);
        for (int c = 0; c < picture.many; c++) {
            contents.addAll(List.of(c + 1, 16 * picture.h[c] + picture.v[c], c));
        }
        segment(out, script == 2 ? 194 : 192, contents);
        if (unitsBetween > 0) {
            contents = new ArrayList<>();
            two(contents, unitsBetween);
            segment(out, 221, contents);
        }
        for (ScanTold t : list) {
            t.interval = unitsBetween;
            saveScan(out, t);
        }
        out.addAll(List.of(255, 217));
        wouldBe = out.size();
        if (out.size() > 16384) {
            return -1;
        }
        output = out.stream().mapToInt(b -> b).toArray();
        return output.length;
    }

    private void saveScan(List<Integer> out, ScanTold t) {
        Coder coder = new Coder(picture, t);
        coder.write();
        int many = t.components.length;
        Best[] dc = new Best[many];
        Best[] ac = new Best[many];
        List<Integer> contents = new ArrayList<>();
        for (int m = 0; m < many && t.first == 0 && t.before == 0; m++) {
            dc[m] = best(often(coder.out, 1, m));
            table(contents, t.components[m], dc[m]);
        }
        for (int m = 0; m < many && t.last > 0; m++) {
            ac[m] = best(often(coder.out, 2, m));
            table(contents, 16 + t.components[m], ac[m]);
        }
        if (!contents.isEmpty()) {
            segment(out, 196, contents);
        }
        contents = new ArrayList<>(List.of(many));
        for (int c : t.components) {
            contents.add(c + 1);
            contents.add(16 * c + c);
        }
        contents.addAll(List.of(t.first, t.last, 16 * t.before + t.bits));
        segment(out, 218, contents);
        out.addAll(dataOf(coder.out, dc, ac));
    }

    // ---- waves ----

    private static final int[] K = {8192, 8035, 7568, 6811, 5793, 4551, 3135, 1598, 0};

    static long cos(int number) {
        int m = number % 32;
        if (m <= 8) {
            return K[m];
        }
        if (m <= 16) {
            return -K[16 - m];
        }
        if (m <= 24) {
            return -K[m - 16];
        }
        return K[32 - m];
    }

    static long wave(int n, int u, int x) {
        return u == 0 ? K[4] : cos((2 * x + 1) * u * (8 / n));
    }

    static long round(long v, int s) {
        return Math.floorDiv(v + (1L << s - 1), 1L << s);
    }

    static int limit(long v) {
        return v < 0 ? 0 : v > 255 ? 255 : (int) v;
    }

    static int[][] back(int[] block, int[] steps, int n) {
        long[][] p = new long[n][n];
        for (int y = 0; y < n; y++) {
            for (int u = 0; u < n; u++) {
                long sum = 0;
                for (int v = 0; v < n; v++) {
                    int k = placeNumber(v, u);
                    sum += wave(n, v, y) * block[k] * steps[k];
                }
                p[y][u] = round(sum, 11);
            }
        }
        int[][] s = new int[n][n];
        for (int y = 0; y < n; y++) {
            for (int x = 0; x < n; x++) {
                long sum = 0;
                for (int u = 0; u < n; u++) {
                    sum += wave(n, u, x) * p[y][u];
                }
                s[y][x] = limit(round(sum, 17) + 128);
            }
        }
        return s;
    }

    static int[] forward(int[][] samples, int[] steps) {
        long[][] p = new long[8][8];
        for (int v = 0; v < 8; v++) {
            for (int x = 0; x < 8; x++) {
                long sum = 0;
                for (int y = 0; y < 8; y++) {
                    sum += wave(8, v, y) * (samples[y][x] - 128);
                }
                p[v][x] = round(sum, 11);
            }
        }
        int[] block = new int[64];
        for (int v = 0; v < 8; v++) {
            for (int u = 0; u < 8; u++) {
                long sum = 0;
                for (int x = 0; x < 8; x++) {
                    sum += wave(8, u, x) * p[v][x];
                }
                int k = placeNumber(v, u);
                long e = round(sum, 17);
                long value = e / steps[k];
                long rest = Math.abs(e % steps[k]);
                if (2 * rest >= steps[k]) {
                    value += e < 0 ? -1 : 1;
                }
                block[k] = (int) Math.min(1023, Math.max(k == 0 ? -1024 : -1023, value));
            }
        }
        return block;
    }

    // ---- planes: [y][x] ----

    static int[][] shrink(int[][] old, boolean across, boolean down) {
        int oldH = old.length;
        int oldW = old[0].length;
        int w = across ? (oldW + 1) / 2 : oldW;
        int h = down ? (oldH + 1) / 2 : oldH;
        int[][] now = new int[h][w];
        for (int y = 0; y < h; y++) {
            for (int x = 0; x < w; x++) {
                int x1 = Math.min(oldW - 1, 2 * x + 1);
                int y1 = Math.min(oldH - 1, 2 * y + 1);
                if (across && down) {
                    now[y][x] = Math.floorDiv(old[2 * y][2 * x] + old[2 * y][x1] + old[y1][2 * x] + old[y1][x1]
                        + 1 + x % 2, 4);
                } else if (across) {
                    now[y][x] = Math.floorDiv(old[y][2 * x] + old[y][x1] + x % 2, 2);
                } else if (down) {
                    now[y][x] = Math.floorDiv(old[2 * y][x] + old[y1][x] + y % 2, 2);
                } else {
                    now[y][x] = old[y][x];
                }
            }
        }
        return now;
    }

    static int[][] growAcross(int[][] old, boolean triangles) {
        int w = old[0].length;
        int[][] now = new int[old.length][2 * w];
        for (int y = 0; y < old.length; y++) {
            for (int x = 0; x < w; x++) {
                int here = old[y][x];
                int left = x > 0 ? old[y][x - 1] : here;
                int right = x < w - 1 ? old[y][x + 1] : here;
                now[y][2 * x] = triangles ? (3 * here + left + 1) / 4 : here;
                now[y][2 * x + 1] = triangles ? (3 * here + right + 2) / 4 : here;
            }
        }
        return now;
    }

    static int[][] turned(int[][] old) {
        int[][] now = new int[old[0].length][old.length];
        for (int y = 0; y < now.length; y++) {
            for (int x = 0; x < old.length; x++) {
                now[y][x] = old[x][y];
            }
        }
        return now;
    }

    static int[][] first(int[][] old, int w, int h) {
        int[][] now = new int[h][w];
        for (int y = 0; y < h; y++) {
            System.arraycopy(old[y], 0, now[y], 0, w);
        }
        return now;
    }

    private boolean isOfSize(int p, int w, int h) {
        return planes[p].length == h && planes[p][0].length == w;
    }

    boolean paintFrom(int w, int h, int many, int shape, int percent) {
        if (w < 1 || w > 32 || h < 1 || h > 32 || many < 1 || many > 4 || percent < 1 || percent > 5000) {
            return false;
        }
        if ((shape & ~((1 << 2 * many) - 1)) != 0) {
            return false;
        }
        Pic pic = new Pic();
        pic.width = w;
        pic.height = h;
        pic.many = many;
        for (int c = 0; c < many; c++) {
            if (!isOfSize(c, w, h)) {
                return false;
            }
            pic.h[c] = (shape >> 2 * c & 1) == 1 ? 2 : 1;
            pic.v[c] = (shape >> 2 * c + 1 & 1) == 1 ? 2 : 1;
        }
        if (pic.countBlocks() > 192) {
            return false;
        }
        pic.makeBlocks();
        for (int c = 0; c < many; c++) {
            int base = c == 0 ? 16 : 17;
            int slope = c == 0 ? 6 : 10;
            for (int v = 0; v < 8; v++) {
                for (int u = 0; u < 8; u++) {
                    int step = ((base + slope * (u + v)) * percent + 50) / 100;
                    pic.steps[c][placeNumber(v, u)] = Math.min(255, Math.max(1, step));
                }
            }
            int[][] samples = shrink(planes[c], pic.h[c] < pic.hm(), pic.v[c] < pic.vm());
            for (int by = 0; by < pic.down(c); by++) {
                for (int bx = 0; bx < pic.across(c); bx++) {
                    int[][] eight = new int[8][8];
                    for (int y = 0; y < 8; y++) {
                        for (int x = 0; x < 8; x++) {
                            eight[y][x] = samples[Math.min(samples.length - 1, 8 * by + y)]
                                [Math.min(samples[0].length - 1, 8 * bx + x)];
                        }
                    }
                    pic.blocks[c][by][bx] = forward(eight, pic.steps[c]);
                }
            }
        }
        picture = pic;
        return true;
    }

    boolean showAt(int n, boolean triangles) {
        if (picture == null || n != 1 && n != 2 && n != 4 && n != 8) {
            return false;
        }
        int w = ceil(picture.width * n, 8);
        int h = ceil(picture.height * n, 8);
        if (w > 32 || h > 32) {
            return false;
        }
        for (int c = 0; c < picture.many; c++) {
            int[][] samples = new int[picture.down(c) * n][picture.across(c) * n];
            for (int by = 0; by < picture.down(c); by++) {
                for (int bx = 0; bx < picture.across(c); bx++) {
                    int[][] s = back(picture.blocks[c][by][bx], picture.steps[c], n);
                    for (int y = 0; y < n; y++) {
                        System.arraycopy(s[y], 0, samples[by * n + y], bx * n, n);
                    }
                }
            }
            samples = first(samples, ceil(ceil(picture.width * picture.h[c], picture.hm()) * n, 8),
                ceil(ceil(picture.height * picture.v[c], picture.vm()) * n, 8));
            if (picture.h[c] < picture.hm()) {
                samples = growAcross(samples, triangles);
            }
            if (picture.v[c] < picture.vm()) {
                samples = turned(growAcross(turned(samples), triangles));
            }
            planes[c] = first(samples, w, h);
        }
        return true;
    }

    boolean mixCanvas(int which) {
        if (which < 0 || which > 6) {
            return false;
        }
        int h = planes[0].length;
        int w = planes[0][0].length;
        for (int p = 1; p < (which == 3 ? 4 : 3); p++) {
            if (!isOfSize(p, w, h)) {
                return false;
            }
        }
        if (which == 5) {
            return mixCanvas(0) && mixCanvas(2);
        }
        if (which == 6) {
            return mixCanvas(2) && mixCanvas(1);
        }
        for (int y = 0; y < h; y++) {
            for (int x = 0; x < w; x++) {
                long a = planes[0][y][x];
                long b = planes[1][y][x];
                long c = planes[2][y][x];
                long d = which == 3 ? planes[3][y][x] : 0;
                long p = b - 128;
                long q = c - 128;
                long grey = 19595 * a + 38470 * b + 7471 * c + 32768 >> 16;
                long[] to = new long[3];
                if (which == 0) {
                    to[0] = limit(a + (91881 * q + 32768 >> 16));
                    to[1] = limit(a + (-22554 * p - 46802 * q + 32768 >> 16));
                    to[2] = limit(a + (116130 * p + 32768 >> 16));
                } else if (which == 1) {
                    to[0] = grey;
                    to[1] = -11059 * a - 21709 * b + 32768 * c + 8421375 >> 16;
                    to[2] = 32768 * a - 27439 * b - 5329 * c + 8421375 >> 16;
                } else if (which == 2) {
                    to = new long[] {255 - a, 255 - b, 255 - c};
                } else if (which == 3) {
                    to = new long[] {(a * (255 - d) + 127) / 255, (b * (255 - d) + 127) / 255,
                        (c * (255 - d) + 127) / 255};
                } else {
                    to = new long[] {grey, grey, grey};
                }
                for (int k = 0; k < 3; k++) {
                    planes[k][y][x] = (int) to[k];
                }
            }
        }
        return true;
    }

    // ---- turning ----

    boolean turnBy(int kind) {
        Pic was = picture;
        if (was == null || kind < 0 || kind > 5) {
            return false;
        }
        if (kind == 0 || kind == 3 || kind == 5) {
            picture = transposed(picture);
        }
        boolean good = true;
        if (kind == 1 || kind == 3 || kind == 4) {
            good = mirror();
        }
        if (good && (kind == 2 || kind == 4 || kind == 5)) {
            picture = transposed(picture);
            good = mirror();
            picture = transposed(picture);
        }
        if (!good) {
            picture = was;
        }
        return good;
    }

    private static Pic transposed(Pic old) {
        Pic now = new Pic();
        now.width = old.height;
        now.height = old.width;
        now.many = old.many;
        now.h = old.v.clone();
        now.v = old.h.clone();
        now.makeBlocks();
        for (int c = 0; c < now.many; c++) {
            for (int v = 0; v < 8; v++) {
                for (int u = 0; u < 8; u++) {
                    now.steps[c][placeNumber(v, u)] = old.steps[c][placeNumber(u, v)];
                    for (int by = 0; by < now.down(c); by++) {
                        for (int bx = 0; bx < now.across(c); bx++) {
                            now.blocks[c][by][bx][placeNumber(v, u)] = old.blocks[c][bx][by][placeNumber(u, v)];
                        }
                    }
                }
            }
        }
        return now;
    }

    private boolean mirror() {
        Pic old = picture;
        int units = old.width / (8 * old.hm());
        if (units == 0) {
            return false;
        }
        Pic now = new Pic();
        now.width = units * 8 * old.hm();
        now.height = old.height;
        now.many = old.many;
        now.h = old.h;
        now.v = old.v;
        now.steps = old.steps;
        now.makeBlocks();
        for (int c = 0; c < now.many; c++) {
            int across = units * now.h[c];
            for (int by = 0; by < now.down(c); by++) {
                for (int bx = 0; bx < across; bx++) {
                    for (int k = 0; k < 64; k++) {
                        int value = old.blocks[c][by][across - 1 - bx][k];
                        now.blocks[c][by][bx][k] = PLACES[k][1] % 2 == 1 ? -value : value;
                    }
                }
            }
        }
        picture = now;
        return true;
    }

    boolean cropTo(int x, int y, int w, int h) {
        Pic old = picture;
        if (old == null || w < 1 || h < 1 || x < 0 || y < 0
                || (long) x + w > old.unitsAcross() || (long) y + h > old.unitsDown()) {
            return false;
        }
        Pic now = new Pic();
        now.width = Math.min(old.width, (x + w) * 8 * old.hm()) - x * 8 * old.hm();
        now.height = Math.min(old.height, (y + h) * 8 * old.vm()) - y * 8 * old.vm();
        now.many = old.many;
        now.h = old.h;
        now.v = old.v;
        now.steps = old.steps;
        now.makeBlocks();
        for (int c = 0; c < now.many; c++) {
            for (int by = 0; by < now.down(c); by++) {
                for (int bx = 0; bx < now.across(c); bx++) {
                    now.blocks[c][by][bx] = old.blocks[c][by + y * old.v[c]][bx + x * old.h[c]].clone();
                }
            }
        }
        picture = now;
        return true;
    }

    // ---- small things ----

    boolean giveInput(long v, int n) {
        if (n < 1 || n > 8 || input.length + n > 16384) {
            return false;
        }
        input = java.util.Arrays.copyOf(input, input.length + n);
        for (int k = 1; k <= n; k++) {
            input[input.length - k] = (int) (v & 255);
            v >>= 8;
        }
        return true;
    }

    void wipeInput() {
        input = new int[0];
    }

    void takeOutput() {
        input = output.clone();
    }

    int outputAt(int k) {
        return k < 0 || k >= output.length ? -1 : output[k];
    }

    private boolean isBlock(int c, int bx, int by) {
        return picture != null && c >= 0 && c < picture.many && bx >= 0 && bx < picture.across(c)
            && by >= 0 && by < picture.down(c);
    }

    boolean setCoefficient(int c, int bx, int by, int k, int v) {
        if (!isBlock(c, bx, by) || k < 0 || k > 63 || v > 1023 || v < -1024 || v == -1024 && k != 0) {
            return false;
        }
        picture.blocks[c][by][bx][k] = v;
        return true;
    }

    int coefficientAt(int c, int bx, int by, int k) {
        return isBlock(c, bx, by) && k >= 0 && k <= 63 ? picture.blocks[c][by][bx][k] : 0;
    }

    int stepAt(int c, int k) {
        return picture == null || c < 0 || c >= picture.many || k < 0 || k > 63 ? -1 : picture.steps[c][k];
    }

    boolean canvasSize(int p, int w, int h) {
        if (p < 0 || p > 3 || w < 1 || w > 32 || h < 1 || h > 32) {
            return false;
        }
        planes[p] = new int[h][w];
        return true;
    }

    boolean canvasRow(int p, int x, int y, long eight) {
        if (p < 0 || p > 3 || y < 0 || y >= planes[p].length || x < 0 || x >= planes[p][0].length) {
            return false;
        }
        for (int k = 0; k < 8 && x + k < planes[p][0].length; k++) {
            planes[p][y][x + k] = (int) (eight >>> 56);
            eight <<= 8;
        }
        return true;
    }

    long canvasEight(int p, int x, int y) {
        long eight = 0;
        for (long k = 0; k < 8; k++) {
            long xx = x + k;
            boolean there = p >= 0 && p <= 3 && y >= 0 && y < planes[p].length && xx >= 0
                && xx < planes[p][0].length;
            eight = eight * 256 + (there ? planes[p][y][(int) xx] : 0);
        }
        return eight;
    }

    int aboutPicture(int w) {
        if (picture == null) {
            return -1;
        }
        if (w == 0) {
            return picture.width;
        }
        if (w == 1) {
            return picture.height;
        }
        if (w == 2) {
            return picture.many;
        }
        if (w == 3) {
            return picture.countBlocks();
        }
        if (w == 4 || w == 5) {
            int sum = 0;
            for (int c = 0; c < picture.many; c++) {
                for (int[][] row : picture.blocks[c]) {
                    for (int[] block : row) {
                        for (int value : block) {
                            sum += w == 5 ? Math.abs(value) : value != 0 ? 1 : 0;
                        }
                    }
                }
            }
            return sum;
        }
        for (int c = 0; c < picture.many; c++) {
            int[] four = {picture.h[c], picture.v[c], picture.across(c), picture.down(c)};
            for (int k = 0; k < 4; k++) {
                if (w == 8 + 4 * c + k) {
                    return four[k];
                }
            }
        }
        return -1;
    }

    int statusOf(int which) {
        int[] all = {input.length, fault, place, output.length, scans, segments, opened, -1};
        if (which >= 0 && which < 8) {
            return all[which];
        }
        if (which >= 8 && which < 16) {
            int[][] plane = planes[which / 2 - 4];
            return which % 2 == 0 ? plane[0].length : plane.length;
        }
        return -1;
    }
}
