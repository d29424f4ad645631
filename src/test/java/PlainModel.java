import java.util.ArrayList;
import java.util.HashMap;
import java.util.LinkedHashMap;
import java.util.List;
import java.util.Map;
import java.util.TreeMap;

/**
 * The document told a second time, slowly and with other means than the class (lists, maps, texts of
 * bits; states are rebuilt by telling all orders again), to compare the class with.
 */
final class PlainModel {
    static final int NONE = -1;
    static final int MIN = Integer.MIN_VALUE;

    /** An order that changes something; a state is the orders that led to it. */
    record Order(String name, int a, int b, int c, int d) {
    }

    private List<Order> orders = new ArrayList<>();
    private final Map<Integer, List<Order>> kept = new HashMap<>();
    private World w = new World();

    private static World rebuilt(List<Order> orders) {
        World world = new World();
        for (Order o : orders) {
            world.apply(o);
        }
        return world;
    }

    private void tell(String name, int a, int b, int c, int d) {
        Order o = new Order(name, a, b, c, d);
        w.apply(o);
        if (name.equals("restart")) {
            // what was before matters no more, but for what restart() leaves
            orders.removeIf(x -> x.name().equals("slots") || x.name().equals("burst"));
        }
        orders.add(o);
    }

    boolean tone(int channel, int period, int height, int noise) {
        if (channel < 0 || channel > 1 || period < 2 || period > 200 || height < 0 || height > 2000
                || noise < 0 || noise > 500) {
            return false;
        }
        tell("tone", channel, period, height, noise);
        return true;
    }

    boolean sets(int what, int v) {
        int[][] ranges = {{0, 999999}, {2, 128}, {0, 1}, {0, 1}, {1, 16}, {0, 100}, {-50, 50}, {1, 6}, {10, 80},
            {0, 1}, {0, 1000}};
        if (what < 0 || what > 10 || v < ranges[what][0] || v > ranges[what][1]) {
            return false;
        }
        tell("sets", what, v, 0, 0);
        return true;
    }

    boolean loud(int band, int v) {
        if (band < 0 || band > 7 || v < -4 || v > 8) {
            return false;
        }
        tell("loud", band, v, 0, 0);
        return true;
    }

    int burst(int n) {
        if (n < 0 || n > 99) {
            return NONE;
        }
        int was = w.burst;
        tell("burst", n, 0, 0, 0);
        return was;
    }

    int run(int n) {
        if (n < 1 || n > 400 || w.slot + n - 1 > 9999) {
            return NONE;
        }
        int was = w.log.size();
        tell("slots", n, 0, 0, 0);
        return w.log.size() - was;
    }

    int restart() {
        int was = w.slot;
        tell("restart", 0, 0, 0, 0);
        return was;
    }

    boolean keep(int k) {
        if (k != 0 && k != 1) {
            return false;
        }
        kept.put(k, new ArrayList<>(orders));
        return true;
    }

    boolean again(int k) {
        if (!kept.containsKey(k)) {
            return false;
        }
        orders = new ArrayList<>(kept.get(k));
        w = rebuilt(orders);
        return true;
    }

    int source(int channel, int n) {
        return (channel == 0 || channel == 1) && n >= 0 && n <= 99999 ? w.sample(channel, n) : MIN;
    }

    int band(int channel, int band, int block, int what) {
        if (w.last == null || bad(channel, 1) || bad(band, 7) || bad(block, 3) || bad(what, 3)) {
            return MIN;
        }
        Coded f = w.last;
        switch (what) {
            case 0: return f.split[channel][band][block];
            case 1: return f.told[channel][band][block];
            case 2: return f.bits[channel][band] == 0 ? NONE
                : quant(f.told[channel][band][block], f.scales[channel][band], f.bits[channel][band]);
            default: return f.back(channel, band, block);
        }
    }

    int dealt(int channel, int band, int what) {
        if (w.last == null || bad(channel, 1) || bad(band, 7) || bad(what, 3)) {
            return MIN;
        }
        switch (what) {
            case 0: return w.last.scales[channel][band];
            case 1: return need(w.last.scales[channel][band], w.last.method, w.loud.get(band));
            case 2: return w.last.bits[channel][band];
            default: return w.last.twinned[band] ? 1 : 0;
        }
    }

    int code(int i) {
        if (w.last == null) {
            return NONE;
        }
        if (i == NONE) {
            return w.last.code.length() / 8;
        }
        return i < 0 || i >= w.last.code.length() / 8 ? NONE : byteOf(w.last.code, i);
    }

    int dealtBy(int pool, int method, int channel, int band) {
        if (w.last == null || badPool(pool) || bad(method, 1) || bad(channel, 1) || bad(band, 7)) {
            return NONE;
        }
        return deal(w.last.scales, pool, method, w.loud)[channel][band];
    }

    int cost(int pool, int method) {
        if (w.last == null || badPool(pool) || bad(method, 1)) {
            return NONE;
        }
        int sum = 0;
        for (int one : costs(pool, method)) {
            sum += one;
        }
        return sum;
    }

    private List<Integer> costs(int pool, int method) {
        Coded f = w.last.dealtAnew(pool, method, w.loud);
        List<Integer> costs = new ArrayList<>();
        for (int c = 0; c < 2; c++) {
            for (int b = 0; b < 8; b++) {
                int sum = 0;
                for (int k = 0; k < 4; k++) {
                    sum += Math.abs(f.told[c][b][k] - f.back(c, b, k));
                }
                costs.add(sum);
            }
        }
        return costs;
    }

    int least(int method, int cost) {
        for (int pool = 2; pool <= 128; pool++) {
            int c = cost(pool, method);
            if (c != NONE && c <= cost) {
                return pool;
            }
        }
        return NONE;
    }

    int coded(int pool, int method, int paired, int what) {
        if (w.last == null || badPool(pool) || bad(method, 1) || bad(paired, 1) || bad(what, 3)) {
            return NONE;
        }
        Coded f = new Coded(w.last.split, 0, pool, method, paired, w.loud);
        if (what == 0) {
            return f.code.length() / 8;
        }
        if (what == 1) {
            return byteOf(f.code, 4);
        }
        int sum = 0;
        int most = 0;
        for (int b = 0; b < 8; b++) {
            for (int k = 0; k < 4; k++) {
                int l = f.back(0, b, k);
                int r = f.back(1, b, k);
                if (f.twinned[b]) {
                    int m = l;
                    int side = r;
                    l = m + Math.floorDiv(side + 1, 2);
                    r = l - side;
                }
                int offL = Math.abs(f.split[0][b][k] - l);
                int offR = Math.abs(f.split[1][b][k] - r);
                sum += offL + offR;
                most = Math.max(most, Math.max(offL, offR));
            }
        }
        return what == 2 ? sum : most;
    }

    int worst(int pool, int method, int what) {
        if (w.last == null || badPool(pool) || bad(method, 1) || bad(what, 1)) {
            return NONE;
        }
        List<Integer> costs = costs(pool, method);
        int most = costs.stream().max(Integer::compare).get();
        return what == 0 ? costs.indexOf(most) : most;
    }

    int paired(int band, int what) {
        if (w.last == null || bad(band, 7) || bad(what, 1)) {
            return NONE;
        }
        return w.last.sums(band)[what];
    }

    int share(int channel) {
        if (w.last == null || channel < -1 || channel > 1) {
            return NONE;
        }
        int sum = 0;
        for (int c = 0; c < 2; c++) {
            for (int b = 0; b < 8; b++) {
                sum += channel == NONE || channel == c ? w.last.bits[c][b] : 0;
            }
        }
        return sum;
    }

    int damaged(int bit, int other) {
        if (w.last == null || bit < 0 || bit >= w.last.code.length() || other < -1 || other >= w.last.code.length()
                || bit == other) {
            return NONE;
        }
        String code = flipped(w.last.code, bit);
        code = other == NONE ? code : flipped(code, other);
        return byteOf(code, 0) != 156 ? 0 : byteOf(code, 3) != check(code) ? 1 : 2;
    }

    int heard(int channel, int ago) {
        return bad(channel, 1) || bad(ago, 191) ? MIN : w.heardAgo(channel, ago);
    }

    int spectrum(int channel, int band) {
        if (bad(channel, 1) || bad(band, 7)) {
            return MIN;
        }
        Nodes nodes = new Nodes();
        int sum = 0;
        for (int k = 0; k < 4; k++) {
            List<Integer> block = new ArrayList<>();
            for (int i = 0; i < 8; i++) {
                block.add(w.heardAgo(channel, 31 - 8 * k - i));
            }
            sum += Math.abs(nodes.split(block).get(band));
        }
        return sum;
    }

    int madeUp(int channel, int what) {
        if (bad(channel, 1) || bad(what, 33)) {
            return MIN;
        }
        int[] lag = w.lag(channel);
        return what < 2 ? lag[what] : w.madeUp(channel).get(what - 2);
    }

    int line(int i, int what) {
        if (i < 0 || i >= w.line.size() || bad(what, 4)) {
            return NONE;
        }
        Sent p = w.packets.get(w.line.get(i));
        switch (what) {
            case 0: return p.number;
            case 1: return p.sent;
            case 2: return 4 * p.number + w.told.get(4);
            case 3: return p.pieces.size();
            default: return p.came.size();
        }
    }

    int packet(int k, int what) {
        if (k < 0 || k > 2499 || bad(what, 3)) {
            return NONE;
        }
        Sent p = w.packets.get(k);
        switch (what) {
            case 0: return p == null ? 0 : p.status;
            case 1: return p == null ? 0 : p.sent;
            case 2: return k < w.log.size() ? w.log.get(k).get(1) : 0;
            default: return p == null ? NONE : p.arrival;
        }
    }

    int played(int ago, int what) {
        if (ago < 0 || ago > 15 || ago >= w.log.size() || bad(what, 6)) {
            return MIN;
        }
        return w.log.get(w.log.size() - 1 - ago).get(what);
    }

    int late(int what) {
        if (w.log.isEmpty() || bad(what, 3)) {
            return MIN;
        }
        List<Integer> lates = new ArrayList<>();
        int made = 0;
        for (List<Integer> f : w.log.subList(Math.max(0, w.log.size() - 16), w.log.size())) {
            lates.add(f.get(6) - 4 * f.get(0));
            made += f.get(1) == 2 ? 1 : 0;
        }
        int changes = 0;
        for (int i = 1; i < lates.size(); i++) {
            changes += Math.abs(lates.get(i) - lates.get(i - 1));
        }
        switch (what) {
            case 0: return lates.stream().min(Integer::compare).get();
            case 1: return lates.stream().max(Integer::compare).get();
            case 2: return changes;
            default: return made;
        }
    }

    int delays(int n, int what) {
        if (bad(n, 15) || bad(what, 1)) {
            return NONE;
        }
        int many = 0;
        for (Sent p : w.packets.values()) {
            int delay = p.arrival - 4 * p.number;
            many += p.status == 2 && (what == 0 ? delay == n : delay > n) ? 1 : 0;
        }
        return many;
    }

    int would(int n, int what) {
        if (n < 1 || n > 100 || w.slot + n - 1 > 9999) {
            return MIN;
        }
        World later = rebuilt(orders);
        later.apply(new Order("slots", n, 0, 0, 0));
        return later.count(what);
    }

    int count(int what) {
        return w.count(what);
    }

    // ---- what the calls go by ----

    static boolean bad(int v, int most) {
        return v < 0 || v > most;
    }

    static boolean badPool(int pool) {
        return pool < 2 || pool > 128;
    }

    static int byteOf(String code, int i) {
        return Integer.parseInt(code.substring(8 * i, 8 * i + 8), 2);
    }

    static String bitsOf(int v, int width) {
        StringBuilder text = new StringBuilder();
        for (int i = 0; i < width; i++) {
            text.insert(0, v % 2);
            v = v / 2;
        }
        return text.toString();
    }

    static String flipped(String code, int bit) {
        return code.substring(0, bit) + (code.charAt(bit) == '0' ? '1' : '0') + code.substring(bit + 1);
    }

    static int check(String code) {
        int c = 15;
        String looked = code.substring(8, 24) + code.substring(32);
        for (char bit : looked.toCharArray()) {
            boolean differs = (c / 128) % 2 != bit - '0';
            c = 2 * c;
            c = differs ? c ^ 29 : c;
            c = c % 256;
        }
        return c;
    }

    static int need(int scale, int method, int loud) {
        if (scale == 0) {
            return 0;
        }
        if (method == 0) {
            return scale;
        }
        int l = scale - loud;
        return l > 0 ? Math.floorDiv(l, 2) : l;
    }

    static int quant(int v, int s, int b) {
        long levels = (long) Math.pow(2, b) - 1;
        long q = Math.floorDiv((v + (long) Math.pow(2, s)) * levels, (long) Math.pow(2, s + 1));
        return (int) (q < 0 ? 0 : q > levels - 1 ? levels - 1 : q);
    }

    static int unquant(int q, int s, int b) {
        if (b == 0) {
            return 0;
        }
        long levels = (long) Math.pow(2, b) - 1;
        return (int) (Math.floorDiv((2L * q + 1) * (long) Math.pow(2, s), levels) - (long) Math.pow(2, s));
    }

    static int[][] deal(int[][] scales, int pool, int method, List<Integer> loud) {
        int[][] bits = new int[2][8];
        int left = pool;
        while (true) {
            int bestC = -1;
            int bestB = -1;
            int best = 0;
            for (int c = 0; c < 2; c++) {
                for (int b = 0; b < 8; b++) {
                    int lack = need(scales[c][b], method, loud.get(b)) - bits[c][b];
                    boolean can = bits[c][b] < 16 && (bits[c][b] == 0 ? left >= 2 : left >= 1);
                    if (lack > 0 && can && lack > best) {
                        best = lack;
                        bestC = c;
                        bestB = b;
                    }
                }
            }
            if (bestC < 0) {
                return bits;
            }
            int more = bits[bestC][bestB] == 0 ? 2 : 1;
            bits[bestC][bestB] += more;
            left -= more;
        }
    }

    static final class Node {
        int a = 0;
        int b = 0;

        int[] split(int e, int o) {
            int d = e - Math.floorDiv(a + o, 2);
            int s = o + Math.floorDiv(b + d, 4);
            a = o;
            b = d;
            return new int[] {s, d};
        }

        int[] join(int s, int d) {
            int o = s - Math.floorDiv(b + d, 4);
            int e = d + Math.floorDiv(a + o, 2);
            a = o;
            b = d;
            return new int[] {e, o};
        }
    }

    static final class Nodes {
        final Node[] nodes = {null, new Node(), new Node(), new Node(), new Node(), new Node(), new Node(), new Node()};

        private List<List<Integer>> splitRow(int node, List<Integer> row) {
            List<Integer> s = new ArrayList<>();
            List<Integer> d = new ArrayList<>();
            for (int i = 0; i < row.size(); i += 2) {
                int[] sd = nodes[node].split(row.get(i), row.get(i + 1));
                s.add(sd[0]);
                d.add(sd[1]);
            }
            return List.of(s, d);
        }

        private List<Integer> joinRow(int node, List<Integer> s, List<Integer> d) {
            List<Integer> row = new ArrayList<>();
            for (int i = 0; i < s.size(); i++) {
                int[] eo = nodes[node].join(s.get(i), d.get(i));
                row.add(eo[0]);
                row.add(eo[1]);
            }
            return row;
        }

        List<Integer> split(List<Integer> block) {
            List<List<Integer>> one = splitRow(1, block);
            List<List<Integer>> two = splitRow(2, one.get(0));
            List<List<Integer>> three = splitRow(3, one.get(1));
            List<Integer> bands = new ArrayList<>();
            int node = 4;
            for (List<Integer> row : List.of(two.get(0), two.get(1), three.get(0), three.get(1))) {
                List<List<Integer>> sd = splitRow(node, row);
                bands.add(sd.get(0).get(0));
                bands.add(sd.get(1).get(0));
                node++;
            }
            return bands;
        }

        List<Integer> join(List<Integer> bands) {
            List<List<Integer>> rows = new ArrayList<>();
            for (int i = 0; i < 4; i++) {
                rows.add(joinRow(4 + i, List.of(bands.get(2 * i)), List.of(bands.get(2 * i + 1))));
            }
            List<Integer> d = joinRow(3, rows.get(2), rows.get(3));
            List<Integer> s = joinRow(2, rows.get(0), rows.get(1));
            return joinRow(1, s, d);
        }
    }

    /** A FRAME coded: [channel][band][block]. */
    static final class Coded {
        final int[][][] split;
        int[][][] told = new int[2][8][4];
        boolean[] twinned = new boolean[8];
        int[][] scales = new int[2][8];
        int[][] bits;
        final int method;
        String code = "";

        Coded(int[][][] split, int number, int pool, int method, int paired, List<Integer> loud) {
            this.split = split;
            this.method = method;
            for (int b = 0; b < 8; b++) {
                twinned[b] = paired == 1 && b < 7 && sums(b)[1] < sums(b)[0];
                for (int k = 0; k < 4; k++) {
                    int l = split[0][b][k];
                    int r = split[1][b][k];
                    told[0][b][k] = twinned[b] ? Math.floorDiv(l + r, 2) : l;
                    told[1][b][k] = twinned[b] ? l - r : r;
                }
                for (int c = 0; c < 2; c++) {
                    scales[c][b] = scale(told[c][b]);
                }
            }
            bits = deal(scales, pool, method, loud);
            write(number, pool, paired);
        }

        private Coded(Coded from, int pool, int method, List<Integer> loud) {
            split = from.split;
            told = from.told;
            twinned = from.twinned;
            scales = from.scales;
            this.method = method;
            bits = deal(scales, pool, method, loud);
        }

        Coded dealtAnew(int pool, int method, List<Integer> loud) {
            return new Coded(this, pool, method, loud);
        }

        static int scale(int[] four) {
            for (int s = 0; s <= 15; s++) {
                boolean all = true;
                for (int v : four) {
                    all &= v > -Math.pow(2, s) && v < Math.pow(2, s);
                }
                if (all) {
                    return s;
                }
            }
            return 15;
        }

        int[] sums(int b) {
            int apart = 0;
            int paired = 0;
            for (int k = 0; k < 4; k++) {
                int l = split[0][b][k];
                int r = split[1][b][k];
                apart += Math.abs(l) + Math.abs(r);
                paired += Math.abs(Math.floorDiv(l + r, 2)) + Math.abs(l - r);
            }
            return new int[] {apart, paired};
        }

        int back(int c, int b, int k) {
            return bits[c][b] == 0 ? 0 : unquant(quant(told[c][b][k], scales[c][b], bits[c][b]), scales[c][b], bits[c][b]);
        }

        private void write(int number, int pool, int paired) {
            StringBuilder behind = new StringBuilder();
            int twins = 0;
            for (int b = 0; b < 8; b++) {
                twins += twinned[b] ? (int) Math.pow(2, b) : 0;
            }
            behind.append(bitsOf(twins, 8));
            for (int c = 0; c < 2; c++) {
                for (int b = 0; b < 8; b++) {
                    behind.append(bitsOf(scales[c][b], 4));
                }
            }
            for (int k = 0; k < 4; k++) {
                for (int c = 0; c < 2; c++) {
                    for (int b = 0; b < 8; b++) {
                        if (bits[c][b] > 0) {
                            behind.append(bitsOf(quant(told[c][b][k], scales[c][b], bits[c][b]), bits[c][b]));
                        }
                    }
                }
            }
            while (behind.length() % 8 != 0) {
                behind.append('0');
            }
            String head = bitsOf(156, 8) + bitsOf(method * 128 + paired * 64 + number % 64, 8) + bitsOf(pool, 8);
            int c = check(head + "00000000" + behind);
            code = head + bitsOf(c, 8) + behind;
        }
    }

    static final class Sent {
        final int number;
        final List<String> pieces = new ArrayList<>();
        List<String> came = new ArrayList<>();
        int sent = 0;
        int status = 1;
        int arrival = NONE;

        Sent(int number, String code, int pieceBytes) {
            this.number = number;
            for (int i = 0; i < code.length(); i += 8 * pieceBytes) {
                pieces.add(code.substring(i, Math.min(code.length(), i + 8 * pieceBytes)));
            }
        }
    }

    static final class World {
        final Map<Integer, Integer> told = new TreeMap<>();
        final List<Integer> loud = new ArrayList<>(List.of(0, 0, 1, 2, 3, 4, 5, 6));
        final int[][] tones = {{40, 1000, 0}, {50, 1000, 0}};
        int slot;
        int s;
        int burst;
        int inUse;
        boolean givenUpInLine;
        Nodes[] coder;
        Nodes[] hearer;
        Coded last;
        Map<Integer, Sent> packets;
        List<Integer> line;
        List<List<Integer>> heard;
        List<List<Integer>> log;
        boolean begun;
        int phase;
        int trim;
        int hold;
        int fill;
        int madeUpNow;
        int madeUpMost;
        int off;
        int offMost;
        Map<String, Integer> tally;

        World() {
            int[] first = {1, 40, 1, 1, 8, 0, 0, 2, 30, 0, 0};
            for (int i = 0; i < first.length; i++) {
                told.put(i, first[i]);
            }
            begin();
        }

        void begin() {
            slot = 0;
            s = told.get(0);
            burst = 0;
            inUse = told.get(1);
            givenUpInLine = false;
            coder = new Nodes[] {new Nodes(), new Nodes()};
            hearer = new Nodes[] {new Nodes(), new Nodes()};
            last = null;
            packets = new LinkedHashMap<>();
            line = new ArrayList<>();
            heard = List.of(new ArrayList<>(), new ArrayList<>());
            log = new ArrayList<>();
            begun = false;
            phase = 0;
            trim = 0;
            hold = 0;
            fill = 0;
            madeUpNow = 0;
            madeUpMost = 0;
            off = 0;
            offMost = 0;
            tally = new HashMap<>();
        }

        void apply(Order o) {
            switch (o.name()) {
                case "tone": tones[o.a()] = new int[] {o.b(), o.c(), o.d()}; break;
                case "sets": set(o.a(), o.b()); break;
                case "loud": loud.set(o.a(), o.b()); break;
                case "burst": burst = o.a(); break;
                case "restart": begin(); break;
                case "slots":
                    for (int i = 0; i < o.a(); i++) {
                        oneSlot();
                    }
                    break;
                default: throw new IllegalStateException(o.name());
            }
        }

        private void set(int what, int v) {
            told.put(what, v);
            if (what == 0) {
                s = v;
            }
            if (what == 1) {
                inUse = v;
            }
            if (told.get(9) == 0) {
                inUse = told.get(1);
            }
        }

        int sample(int c, int n) {
            int p = tones[c][0];
            int h = tones[c][1];
            int m = tones[c][2];
            int u = n % p;
            int v = 2 * u < p ? Math.floorDiv(4 * h * u, p) - h : 3 * h - Math.floorDiv(4 * h * u, p);
            if (m > 0) {
                long z = (7919L * n + 104729L * c + told.get(0)) % 10007;
                v += (int) (z % (2 * m + 1)) - m;
            }
            return clip(v);
        }

        static int clip(int v) {
            return v < -2048 ? -2048 : v > 2047 ? 2047 : v;
        }

        int draw() {
            s = (int) ((1103L * s + 12345) % 1000003);
            return s / 16;
        }

        private void more(String name) {
            tally.merge(name, 1, Integer::sum);
        }

        private void oneSlot() {
            if (slot % 4 == 0) {
                codeFrame(slot / 4);
            }
            for (int k : new ArrayList<>(line)) {
                if (4 * k + told.get(4) <= slot) {
                    line.remove(Integer.valueOf(k));
                    packets.get(k).status = 3;
                    givenUpInLine = true;
                    more("given up");
                }
            }
            if (line.isEmpty()) {
                more("idle");
            } else {
                send(packets.get(line.get(0)));
            }
            play();
            slot++;
        }

        private void codeFrame(int k) {
            int[][][] split = new int[2][8][4];
            for (int c = 0; c < 2; c++) {
                for (int block = 0; block < 4; block++) {
                    List<Integer> eight = new ArrayList<>();
                    for (int i = 0; i < 8; i++) {
                        eight.add(sample(c, 32 * k + 8 * block + i));
                    }
                    List<Integer> bands = coder[c].split(eight);
                    for (int b = 0; b < 8; b++) {
                        split[c][b][block] = bands.get(b);
                    }
                }
            }
            last = new Coded(split, k, inUse, told.get(2), told.get(3), loud);
            packets.put(k, new Sent(k, last.code, told.get(8)));
            line.add(k);
            tally.merge("bytes", last.code.length() / 8, Integer::sum);
            if (k % 8 == 7) {
                if (told.get(9) == 1 && givenUpInLine) {
                    inUse = Math.max(2, Math.floorDiv(3 * inUse, 4));
                } else if (told.get(9) == 1) {
                    inUse = Math.min(told.get(1), inUse + 2);
                }
                givenUpInLine = false;
            }
        }

        private void send(Sent p) {
            p.sent++;
            more("sent");
            if (burst > 0) {
                burst--;
                return;
            }
            if (draw() % 100 < told.get(5)) {
                return;
            }
            more("over");
            String piece = p.pieces.get(p.came.size());
            if (told.get(10) > 0 && draw() % 1000 < told.get(10)) {
                more("damaged");
                piece = flipped(piece, draw() % piece.length());
            }
            p.came.add(piece);
            if (p.came.size() < p.pieces.size()) {
                return;
            }
            String code = String.join("", p.came);
            boolean playedAlready = p.number < log.size();
            if (byteOf(code, 0) != 156 || byteOf(code, 3) != check(code)) {
                more("broken");
                p.came = new ArrayList<>();
                return;
            }
            line.remove(0);
            if (!playedAlready && level() == 12) {
                p.status = 3;
                more("given up");
            } else {
                p.status = 2;
                p.arrival = slot;
                more("arrived");
            }
        }

        int level() {
            int many = 0;
            for (Sent p : packets.values()) {
                many += p.status == 2 && p.number >= log.size() ? 1 : 0;
            }
            return many;
        }

        private void play() {
            if (!begun && level() >= told.get(7)) {
                begun = true;
            }
            if (!begun) {
                return;
            }
            phase += 1000 + told.get(6) + trim;
            while (phase >= 4000) {
                phase -= 4000;
                playFrame(log.size());
            }
        }

        private void playFrame(int k) {
            int level = level();
            fill += level;
            Sent p = packets.get(k);
            boolean byCode = p != null && p.status == 2;
            int fade = byCode ? 8 : Math.max(0, 8 - madeUpNow);
            List<List<Integer>> news = new ArrayList<>();
            if (byCode) {
                news.addAll(hear(String.join("", p.came)));
                for (int c = 0; c < 2; c++) {
                    List<Integer> made = madeUp(c);
                    for (int i = 0; i < 8 && madeUpNow > 0; i++) {
                        news.get(c).set(i, Math.floorDiv((8 - i) * made.get(i) + i * news.get(c).get(i), 8));
                    }
                }
                madeUpNow = 0;
            } else {
                news.add(madeUp(0));
                news.add(madeUp(1));
                madeUpNow++;
                madeUpMost = Math.max(madeUpMost, madeUpNow);
            }
            int sum = 0;
            for (int c = 0; c < 2; c++) {
                heard.get(c).addAll(news.get(c));
                for (int i = 0; i < 32; i++) {
                    int one = Math.abs(news.get(c).get(i) - sample(c, 32 * k + i));
                    sum += one;
                    offMost = byCode ? Math.max(offMost, one) : offMost;
                }
            }
            off += byCode ? sum : 0;
            log.add(List.of(k, byCode ? 1 : 2, level, trim, sum, fade, slot));
            if (log.size() % 8 == 0) {
                int e = fill - 8 * told.get(7);
                hold = Math.min(1600, Math.max(-1600, hold + e));
                trim = Math.min(100, Math.max(-100, Math.floorDiv(4 * e + hold, 8)));
                fill = 0;
            }
        }

        private List<List<Integer>> hear(String code) {
            int method = byteOf(code, 1) / 128;
            int pool = byteOf(code, 2);
            int twins = byteOf(code, 4);
            int[][] scales = new int[2][8];
            for (int i = 0; i < 16; i++) {
                scales[i / 8][i % 8] = Integer.parseInt(code.substring(40 + 4 * i, 44 + 4 * i), 2);
            }
            int[][] bits = deal(scales, pool, method, loud);
            int at = 13 * 8;
            String longer = code + "0".repeat(2000);
            List<List<Integer>> samples = List.of(new ArrayList<>(), new ArrayList<>());
            for (int k = 0; k < 4; k++) {
                int[][] v = new int[2][8];
                for (int i = 0; i < 16; i++) {
                    int b = bits[i / 8][i % 8];
                    int q = b == 0 ? 0 : Integer.parseInt(longer.substring(at, at + b), 2);
                    v[i / 8][i % 8] = unquant(q, scales[i / 8][i % 8], b);
                    at += b;
                }
                for (int b = 0; b < 8; b++) {
                    if ((twins >> b) % 2 == 1) {
                        int l = v[0][b] + Math.floorDiv(v[1][b] + 1, 2);
                        v[1][b] = l - v[1][b];
                        v[0][b] = l;
                    }
                }
                for (int c = 0; c < 2; c++) {
                    List<Integer> bands = new ArrayList<>();
                    for (int b = 0; b < 8; b++) {
                        bands.add(v[c][b]);
                    }
                    for (int x : hearer[c].join(bands)) {
                        samples.get(c).add(clip(x));
                    }
                }
            }
            return samples;
        }

        int heardAgo(int c, int ago) {
            int i = heard.get(c).size() - 1 - ago;
            return i < 0 ? 0 : heard.get(c).get(i);
        }

        int[] lag(int c) {
            int best = 0;
            int least = Integer.MAX_VALUE;
            for (int lag = 16; lag <= 120; lag++) {
                int sum = 0;
                for (int i = 0; i < 32; i++) {
                    sum += Math.abs(heardAgo(c, i) - heardAgo(c, i + lag));
                }
                if (sum < least) {
                    least = sum;
                    best = lag;
                }
            }
            return new int[] {best, least};
        }

        List<Integer> madeUp(int c) {
            int lag = lag(c)[0];
            int fade = Math.max(0, 8 - madeUpNow);
            List<Integer> plain = new ArrayList<>();
            List<Integer> faded = new ArrayList<>();
            for (int i = 0; i < 32; i++) {
                plain.add(i - lag >= 0 ? plain.get(i - lag) : heardAgo(c, lag - i - 1));
                faded.add(Math.floorDiv(plain.get(i) * fade, 8));
            }
            return faded;
        }

        int count(int what) {
            if (what >= 20 && what <= 30) {
                return told.get(what - 20);
            }
            if (what >= 40 && what <= 47) {
                return loud.get(what - 40);
            }
            int byCode = 0;
            for (List<Integer> f : log) {
                byCode += f.get(1) == 1 ? 1 : 0;
            }
            switch (what) {
                case 0: return slot;
                case 1: return packets.size();
                case 2: return tally.getOrDefault("sent", 0);
                case 3: return tally.getOrDefault("arrived", 0);
                case 4: return tally.getOrDefault("given up", 0);
                case 5: return line.size();
                case 6: return level();
                case 7: return log.size();
                case 8: return begun ? 1 : 0;
                case 9: return phase;
                case 10: return trim;
                case 11: return hold;
                case 12: return fill;
                case 13: return byCode;
                case 14: return log.size() - byCode;
                case 15: return madeUpNow;
                case 16: return madeUpMost;
                case 17: return off;
                case 18: return offMost;
                case 19: return tally.getOrDefault("bytes", 0);
                case 31: return inUse;
                case 32: return tally.getOrDefault("over", 0);
                case 33: return tally.getOrDefault("damaged", 0);
                case 34: return tally.getOrDefault("broken", 0);
                case 35: return tally.getOrDefault("idle", 0);
                case 36: return burst;
                default: return MIN;
            }
        }
    }
}
