import java.util.Arrays;

/**
 * Sound on its way to a headset: coded in bands, sent in pieces over a lossy line, played by a
 * drifting clock. The words in capitals are those of the document.
 */
public final class HeadsetBands {
    public static final int NONE = -1;

    private static final int NO_ANSWER = -2147483648;
    private static final int MOST_INT = 2147483647;

    private static final int CHANNELS = 2;
    private static final int BANDS = 8;
    private static final int BLOCKS = 4;
    private static final int COLUMNS = 16;
    private static final int VALUES = 64;
    private static final int FRAME_SAMPLES = 32;
    private static final int KEPT_SAMPLES = 192;
    private static final int LEAST_LAG = 16;
    private static final int MOST_LAG = 120;
    private static final int SLOTS_OF_A_FRAME = 4;
    private static final int ALL_SLOTS = 10000;
    private static final int ALL_PACKETS = 2500;
    private static final int MOST_POOL = 128;
    private static final int CODE_BYTES = 80;
    private static final int FULL_FADE = 8;
    private static final int MOST_LEVEL = 12;
    private static final int LINE_PLACES = 6;
    private static final int PHASE_OF_A_FRAME = 4000;
    private static final int TOLD_FRAMES = 16;

    // The numbers of a Way stand in one row, at the place by which count() asks for them, so that
    // they are copied, cleared and told as one.
    private static final int SLOTS = 0;
    private static final int CODED = 1;
    private static final int SENT = 2;
    private static final int ARRIVED = 3;
    private static final int GIVEN_UP = 4;
    private static final int IN_LINE = 5;
    private static final int LEVEL = 6;
    private static final int NEXT = 7;
    private static final int BEGUN = 8;
    private static final int PHASE = 9;
    private static final int TRIM = 10;
    private static final int HOLD = 11;
    private static final int FILL = 12;
    private static final int BY_CODE = 13;
    private static final int MADE_UP = 14;
    private static final int MADE_UP_NOW = 15;
    private static final int MADE_UP_MOST = 16;
    private static final int OFF = 17;
    private static final int OFF_MOST = 18;
    private static final int BYTES = 19;
    private static final int TOLD = 20;
    private static final int SEED = 20;
    private static final int POOL = 21;
    private static final int METHOD = 22;
    private static final int PAIRED = 23;
    private static final int DEADLINE = 24;
    private static final int LOSS = 25;
    private static final int DRIFT = 26;
    private static final int CENTER = 27;
    private static final int PIECE = 28;
    private static final int STEERED = 29;
    private static final int ERRORS = 30;
    private static final int IN_USE = 31;
    private static final int CAME_OVER = 32;
    private static final int DAMAGED = 33;
    private static final int BROKEN = 34;
    private static final int IDLE = 35;
    private static final int BURST = 36;
    private static final int LAST_COUNT = 36;
    // 37 and 38 are asked for by no call: count() knows nothing between 36 and 40.
    private static final int DRAWN = 37;
    private static final int GIVEN_UP_IN_LINE = 38;
    private static final int LOUD = 40;
    private static final int TONES = 48;
    private static final int TONE_NUMBERS = 3;
    private static final int NUMBERS = 54;

    private static final int[] LEAST_TOLD = {0, 2, 0, 0, 1, 0, -50, 1, 10, 0, 0};
    private static final int[] MOST_TOLD = {999999, 128, 1, 1, 16, 100, 50, 6, 80, 1, 1000};
    private static final int[] FIRST_TOLD = {1, 40, 1, 1, 8, 0, 0, 2, 30, 0, 0};
    private static final int[] FIRST_LOUD = {0, 0, 1, 2, 3, 4, 5, 6};
    private static final int[] FIRST_TONES = {40, 1000, 0, 50, 1000, 0};

    // As packet() and played() tell them.
    private static final int STATUS_IN_LINE = 1;
    private static final int STATUS_ARRIVED = 2;
    private static final int STATUS_GIVEN_UP = 3;
    private static final int HEARD_BY_CODE = 1;
    private static final int HEARD_MADE_UP = 2;

    // The places of a played FRAME's record are those by which played() asks for them; its number (0)
    // is known from NEXT.
    private static final int RECORD_HOW = 1;
    private static final int RECORD_LEVEL = 2;
    private static final int RECORD_TRIM = 3;
    private static final int RECORD_OFF = 4;
    private static final int RECORD_FADE = 5;
    private static final int RECORD_SLOT = 6;
    private static final int RECORD_PLACES = 7;

    private final Way now = new Way();
    private final Way[] kept = new Way[2];
    private Way later = null;
    private final Frame paper = new Frame();
    private final Code spoilt = new Code();
    private final Tree prism = new Tree();
    private final int[] recent = new int[FRAME_SAMPLES];
    private final int[] bandsOfBlock = new int[BANDS];

    public HeadsetBands() {
    }

    public boolean tone(int channel, int period, int height, int noise) {
        if (!within(channel, 0, 1) || !within(period, 2, 200) || !within(height, 0, 2000) || !within(noise, 0, 500)) {
            return false;
        }
        int at = TONES + TONE_NUMBERS * channel;
        now.numbers[at] = period;
        now.numbers[at + 1] = height;
        now.numbers[at + 2] = noise;
        return true;
    }

    public boolean sets(int what, int v) {
        if (!within(what, 0, FIRST_TOLD.length - 1) || !within(v, LEAST_TOLD[what], MOST_TOLD[what])) {
            return false;
        }
        int at = TOLD + what;
        now.numbers[at] = v;
        if (at == SEED) {
            now.numbers[DRAWN] = v;
        }
        if (at == POOL || (at == STEERED && v == 0)) {
            now.numbers[IN_USE] = now.numbers[POOL];
        }
        return true;
    }

    public boolean loud(int band, int v) {
        if (!within(band, 0, BANDS - 1) || !within(v, -4, 8)) {
            return false;
        }
        now.numbers[LOUD + band] = v;
        return true;
    }

    public int burst(int n) {
        if (!within(n, 0, 99)) {
            return NONE;
        }
        int before = now.numbers[BURST];
        now.numbers[BURST] = n;
        return before;
    }

    public int run(int n) {
        if (!within(n, 1, 400) || now.numbers[SLOTS] + n > ALL_SLOTS) {
            return NONE;
        }
        int before = now.numbers[NEXT];
        for (int i = 0; i < n; i++) {
            now.passSlot();
        }
        return now.numbers[NEXT] - before;
    }

    public int restart() {
        int before = now.numbers[SLOTS];
        now.startAnew();
        return before;
    }

    public boolean keep(int k) {
        if (!within(k, 0, 1)) {
            return false;
        }
        if (kept[k] == null) {
            kept[k] = new Way();
        }
        kept[k].become(now);
        return true;
    }

    public boolean again(int k) {
        if (!within(k, 0, 1) || kept[k] == null) {
            return false;
        }
        now.become(kept[k]);
        return true;
    }

    public int source(int channel, int n) {
        if (!within(channel, 0, 1) || !within(n, 0, 99999)) {
            return NO_ANSWER;
        }
        return sampleOf(now.numbers, channel, n);
    }

    public int band(int channel, int band, int block, int what) {
        if (noFrame() || !isColumn(channel, band) || !within(block, 0, BLOCKS - 1)) {
            return NO_ANSWER;
        }
        Frame frame = now.coder.frame;
        int column = channel * BANDS + band;
        int at = block * COLUMNS + column;
        switch (what) {
            case 0:
                return frame.split[at];
            case 1:
                return frame.told[at];
            case 2:
                return frame.bits[column] == 0 ? NONE : frame.quants[at];
            case 3:
                return frame.backs[at];
            default:
                return NO_ANSWER;
        }
    }

    public int dealt(int channel, int band, int what) {
        if (noFrame() || !isColumn(channel, band)) {
            return NO_ANSWER;
        }
        Frame frame = now.coder.frame;
        int column = channel * BANDS + band;
        switch (what) {
            case 0:
                return frame.scales[column];
            case 1:
                return frame.need(column, frame.method, now.numbers);
            case 2:
                return frame.bits[column];
            case 3:
                return (frame.twins >> band) & 1;
            default:
                return NO_ANSWER;
        }
    }

    public int code(int i) {
        if (noFrame()) {
            return NONE;
        }
        Code code = now.coder.code;
        if (i == NONE) {
            return code.size;
        }
        return within(i, 0, code.size - 1) ? code.bytes[i] : NONE;
    }

    public int dealtBy(int pool, int method, int channel, int band) {
        if (!onPaper(pool, method) || !isColumn(channel, band)) {
            return NONE;
        }
        paper.become(now.coder.frame);
        paper.deal(pool, method, now.numbers);
        return paper.bits[channel * BANDS + band];
    }

    public int cost(int pool, int method) {
        if (!onPaper(pool, method)) {
            return NONE;
        }
        paper.become(now.coder.frame);
        return costOnPaper(pool, method);
    }

    public int least(int method, int cost) {
        if (!onPaper(MOST_POOL, method)) {
            return NONE;
        }
        paper.become(now.coder.frame);
        for (int pool = LEAST_TOLD[POOL - TOLD]; pool <= MOST_POOL; pool++) {
            if (costOnPaper(pool, method) <= cost) {
                return pool;
            }
        }
        return NONE;
    }

    public int coded(int pool, int method, int paired, int what) {
        if (!onPaper(pool, method) || !within(paired, 0, 1)) {
            return NONE;
        }
        paper.become(now.coder.frame);
        paper.tell(paired);
        paper.deal(pool, method, now.numbers);
        paper.quantise();
        paper.undoTwins();
        switch (what) {
            case 0:
                return Code.bytesFor(paper.bitsOf(0) + paper.bitsOf(1));
            case 1:
                return paper.twins;
            case 2:
                return paper.sumOff();
            case 3:
                return paper.mostOff();
            default:
                return NONE;
        }
    }

    public int worst(int pool, int method, int what) {
        if (!onPaper(pool, method) || !within(what, 0, 1)) {
            return NONE;
        }
        paper.become(now.coder.frame);
        paper.deal(pool, method, now.numbers);
        paper.quantise();
        int column = 0;
        for (int other = 1; other < COLUMNS; other++) {
            if (paper.costOf(other) > paper.costOf(column)) {
                column = other;
            }
        }
        return what == 0 ? column : paper.costOf(column);
    }

    public int paired(int band, int what) {
        if (noFrame() || !within(band, 0, BANDS - 1) || !within(what, 0, 1)) {
            return NONE;
        }
        Frame frame = now.coder.frame;
        return what == 0 ? frame.sumApart(band) : frame.sumPaired(band);
    }

    public int share(int channel) {
        if (noFrame() || !within(channel, NONE, 1)) {
            return NONE;
        }
        Frame frame = now.coder.frame;
        return channel == NONE ? frame.bitsOf(0) + frame.bitsOf(1) : frame.bitsOf(channel);
    }

    public int damaged(int bit, int other) {
        if (noFrame()) {
            return NONE;
        }
        int last = 8 * now.coder.code.size - 1;
        if (!within(bit, 0, last) || !within(other, NONE, last) || bit == other) {
            return NONE;
        }
        spoilt.become(now.coder.code);
        spoilt.turnRound(bit);
        if (other != NONE) {
            spoilt.turnRound(other);
        }
        return spoilt.look();
    }

    public int heard(int channel, int ago) {
        if (!within(channel, 0, 1) || !within(ago, 0, KEPT_SAMPLES - 1)) {
            return NO_ANSWER;
        }
        return now.player.ears[channel].sampleAgo(ago);
    }

    public int spectrum(int channel, int band) {
        if (!isColumn(channel, band)) {
            return NO_ANSWER;
        }
        for (int i = 0; i < FRAME_SAMPLES; i++) {
            recent[i] = now.player.ears[channel].sampleAgo(FRAME_SAMPLES - 1 - i);
        }
        prism.clear();
        int sum = 0;
        for (int block = 0; block < BLOCKS; block++) {
            prism.splitBlock(recent, BANDS * block, bandsOfBlock, 0);
            sum += Math.abs(bandsOfBlock[band]);
        }
        return sum;
    }

    public int madeUp(int channel, int what) {
        if (!within(channel, 0, 1) || !within(what, 0, FRAME_SAMPLES + 1)) {
            return NO_ANSWER;
        }
        Ear ear = now.player.ears[channel];
        ear.makeUp(now.player.fade());
        switch (what) {
            case 0:
                return ear.lag;
            case 1:
                return ear.lagSum;
            default:
                return ear.made[what - 2];
        }
    }

    public int line(int i, int what) {
        Packet packet = now.sender.line.at(i);
        if (packet == null) {
            return NONE;
        }
        switch (what) {
            case 0:
                return packet.number;
            case 1:
                return packet.sent;
            case 2:
                return packet.number * SLOTS_OF_A_FRAME + now.numbers[DEADLINE];
            case 3:
                return packet.pieces();
            case 4:
                return packet.over;
            default:
                return NONE;
        }
    }

    public int packet(int k, int what) {
        if (!within(k, 0, ALL_PACKETS - 1)) {
            return NONE;
        }
        switch (what) {
            case 0:
                return now.book.status(k);
            case 1:
                return now.book.sentPieces(k);
            case 2:
                return now.book.howHeard(k);
            case 3:
                return now.book.arrivalSlot(k);
            default:
                return NONE;
        }
    }

    public int played(int ago, int what) {
        if (!within(ago, 0, now.player.toldFrames() - 1)) {
            return NO_ANSWER;
        }
        if (what == 0) {
            return now.numbers[NEXT] - 1 - ago;
        }
        return within(what, RECORD_HOW, RECORD_SLOT) ? now.player.recordOf(ago, what) : NO_ANSWER;
    }

    public int late(int what) {
        int frames = now.player.toldFrames();
        if (frames == 0) {
            return NO_ANSWER;
        }
        int least = now.player.lateness(0);
        int greatest = least;
        int changes = 0;
        int made = 0;
        for (int ago = 0; ago < frames; ago++) {
            int lateness = now.player.lateness(ago);
            least = Math.min(least, lateness);
            greatest = Math.max(greatest, lateness);
            changes += ago == 0 ? 0 : Math.abs(lateness - now.player.lateness(ago - 1));
            made += now.player.recordOf(ago, RECORD_HOW) == HEARD_MADE_UP ? 1 : 0;
        }
        switch (what) {
            case 0:
                return least;
            case 1:
                return greatest;
            case 2:
                return changes;
            case 3:
                return made;
            default:
                return NO_ANSWER;
        }
    }

    public int delays(int n, int what) {
        if (!within(n, 0, Book.DELAYS - 1) || !within(what, 0, 1)) {
            return NONE;
        }
        return what == 0 ? now.book.delays[n] : now.book.delaysAbove(n);
    }

    public int would(int n, int what) {
        if (!within(n, 1, 100) || now.numbers[SLOTS] + n > ALL_SLOTS || !isCount(what)) {
            return NO_ANSWER;
        }
        if (later == null) {
            later = new Way();
        }
        later.become(now);
        for (int i = 0; i < n; i++) {
            later.passSlot();
        }
        return later.numbers[what];
    }

    public int count(int what) {
        return isCount(what) ? now.numbers[what] : NO_ANSWER;
    }

    private static boolean isCount(int what) {
        return within(what, 0, LAST_COUNT) || within(what, LOUD, LOUD + BANDS - 1);
    }

    private static boolean isColumn(int channel, int band) {
        return within(channel, 0, CHANNELS - 1) && within(band, 0, BANDS - 1);
    }

    private boolean noFrame() {
        return now.numbers[CODED] == 0;
    }

    private boolean onPaper(int pool, int method) {
        return !noFrame() && within(pool, LEAST_TOLD[POOL - TOLD], MOST_POOL) && within(method, 0, 1);
    }

    private int costOnPaper(int pool, int method) {
        paper.deal(pool, method, now.numbers);
        paper.quantise();
        int sum = 0;
        for (int column = 0; column < COLUMNS; column++) {
            sum += paper.costOf(column);
        }
        return sum;
    }

    private static boolean within(int v, int least, int most) {
        return v >= least && v <= most;
    }

    private static int nearest(int v, int least, int most) {
        if (v < least) {
            return least;
        }
        return v > most ? most : v;
    }

    private static int nearestSample(int v) {
        return nearest(v, -2048, 2047);
    }

    private static int sampleOf(int[] numbers, int channel, int n) {
        int at = TONES + TONE_NUMBERS * channel;
        int period = Math.max(1, numbers[at]);
        int height = numbers[at + 1];
        int noise = numbers[at + 2];
        int u = n % period;
        int slope = 4 * height * u / period;
        int sample = 2 * u < period ? slope - height : 3 * height - slope;
        if (noise > 0) {
            int z = (7919 * n + 104729 * channel + numbers[SEED]) % 10007;
            sample += z % (2 * noise + 1) - noise;
        }
        return nearestSample(sample);
    }

    /** NODES 1 .. 7 of one CHANNEL (at 0 .. 6), with their MEMORIES. */
    private static final class Tree {
        final int[] memoriesA = new int[7];
        final int[] memoriesB = new int[7];
        final int[] row = new int[BANDS];
        final int[] next = new int[BANDS];

        void clear() {
            Arrays.fill(memoriesA, 0);
            Arrays.fill(memoriesB, 0);
        }

        void become(Tree other) {
            System.arraycopy(other.memoriesA, 0, memoriesA, 0, 7);
            System.arraycopy(other.memoriesB, 0, memoriesB, 0, 7);
        }

        void splitBlock(int[] samples, int from, int[] bands, int to) {
            System.arraycopy(samples, from, row, 0, BANDS);
            for (int level = 0; level < 3; level++) {
                int nodes = 1 << level;
                for (int i = 0; i < nodes; i++) {
                    splitRow(nodes - 1 + i, i * BANDS / nodes, BANDS / nodes / 2);
                }
                System.arraycopy(next, 0, row, 0, BANDS);
            }
            System.arraycopy(row, 0, bands, to, BANDS);
        }

        void joinBlock(int[] bands, int from, int[] samples, int to) {
            System.arraycopy(bands, from, row, 0, BANDS);
            for (int level = 2; level >= 0; level--) {
                int nodes = 1 << level;
                for (int i = 0; i < nodes; i++) {
                    joinRow(nodes - 1 + i, i * BANDS / nodes, BANDS / nodes / 2);
                }
                System.arraycopy(next, 0, row, 0, BANDS);
            }
            System.arraycopy(row, 0, samples, to, BANDS);
        }

        // Shifts, not quotients: they go downwards for numbers below 0, too.
        private void splitRow(int node, int start, int pairs) {
            for (int i = 0; i < pairs; i++) {
                int e = row[start + 2 * i];
                int o = row[start + 2 * i + 1];
                int d = e - ((memoriesA[node] + o) >> 1);
                next[start + i] = o + ((memoriesB[node] + d) >> 2);
                next[start + pairs + i] = d;
                memoriesA[node] = o;
                memoriesB[node] = d;
            }
        }

        private void joinRow(int node, int start, int pairs) {
            for (int i = 0; i < pairs; i++) {
                int s = row[start + i];
                int d = row[start + pairs + i];
                int o = s - ((memoriesB[node] + d) >> 2);
                next[start + 2 * i] = d + ((memoriesA[node] + o) >> 1);
                next[start + 2 * i + 1] = o;
                memoriesA[node] = o;
                memoriesB[node] = d;
            }
        }
    }

    /**
     * The BANDS of a FRAME. A column is 8 times the CHANNEL and the BAND; BLOCK by BLOCK the
     * sixteen columns stand one behind the other, as the CODE has them.
     */
    private static final class Frame {
        final int[] split = new int[VALUES];
        final int[] told = new int[VALUES];
        final int[] quants = new int[VALUES];
        final int[] backs = new int[VALUES];
        final int[] rejoined = new int[VALUES];
        final int[] scales = new int[COLUMNS];
        final int[] needs = new int[COLUMNS];
        final int[] bits = new int[COLUMNS];
        int twins = 0;
        int method = 0;
        int pool = 0;

        void become(Frame other) {
            System.arraycopy(other.split, 0, split, 0, VALUES);
            System.arraycopy(other.told, 0, told, 0, VALUES);
            System.arraycopy(other.quants, 0, quants, 0, VALUES);
            System.arraycopy(other.backs, 0, backs, 0, VALUES);
            System.arraycopy(other.scales, 0, scales, 0, COLUMNS);
            System.arraycopy(other.bits, 0, bits, 0, COLUMNS);
            twins = other.twins;
            method = other.method;
            pool = other.pool;
        }

        int sumApart(int band) {
            int sum = 0;
            for (int left = band; left < VALUES; left += COLUMNS) {
                sum += Math.abs(split[left]) + Math.abs(split[left + BANDS]);
            }
            return sum;
        }

        int sumPaired(int band) {
            int sum = 0;
            for (int left = band; left < VALUES; left += COLUMNS) {
                int l = split[left];
                int r = split[left + BANDS];
                sum += Math.abs((l + r) >> 1) + Math.abs(l - r);
            }
            return sum;
        }

        /** From BANDS as SPLIT to BANDS as they are to be coded, with their SCALES. */
        void tell(int paired) {
            System.arraycopy(split, 0, told, 0, VALUES);
            twins = 0;
            for (int band = 0; band < BANDS - 1; band++) {
                if (paired == 1 && sumPaired(band) < sumApart(band)) {
                    twins |= 1 << band;
                    makeTwin(band);
                }
            }
            for (int column = 0; column < COLUMNS; column++) {
                scales[column] = scaleOf(column);
            }
        }

        private void makeTwin(int band) {
            for (int left = band; left < VALUES; left += COLUMNS) {
                int l = split[left];
                int r = split[left + BANDS];
                told[left] = (l + r) >> 1;
                told[left + BANDS] = l - r;
            }
        }

        private int scaleOf(int column) {
            int greatest = 0;
            for (int at = column; at < VALUES; at += COLUMNS) {
                greatest = Math.max(greatest, Math.abs(told[at]));
            }
            for (int scale = 0; scale < 15; scale++) {
                if (greatest < 1 << scale) {
                    return scale;
                }
            }
            return 15;
        }

        int need(int column, int byMethod, int[] numbers) {
            int scale = scales[column];
            if (scale == 0 || byMethod == 0) {
                return scale;
            }
            int l = scale - numbers[LOUD + column % BANDS];
            return l > 0 ? l / 2 : l;
        }

        void deal(int fromPool, int byMethod, int[] numbers) {
            for (int column = 0; column < COLUMNS; column++) {
                needs[column] = need(column, byMethod, numbers);
                bits[column] = 0;
            }
            pool = fromPool;
            method = byMethod;
            int left = fromPool;
            // Each round takes one at least out of the pool.
            for (int round = 0; round < fromPool; round++) {
                int column = neediest(left);
                if (column == NONE) {
                    return;
                }
                int more = bits[column] == 0 ? 2 : 1;
                bits[column] += more;
                left -= more;
            }
        }

        private int neediest(int left) {
            int best = NONE;
            int most = 0;
            for (int column = 0; column < COLUMNS; column++) {
                int lack = needs[column] - bits[column];
                int least = bits[column] == 0 ? 2 : 1;
                if (lack > most && bits[column] < 16 && left >= least) {
                    best = column;
                    most = lack;
                }
            }
            return best;
        }

        void quantise() {
            for (int at = 0; at < VALUES; at++) {
                int column = at % COLUMNS;
                quants[at] = quantOf(told[at], scales[column], bits[column]);
                backs[at] = backOf(quants[at], scales[column], bits[column]);
            }
        }

        private static int quantOf(int v, int scale, int bits) {
            if (bits <= 0) {
                return 0;
            }
            long levels = (1L << bits) - 1;
            long q = ((v + (1L << scale)) * levels) >> (scale + 1);
            return (int) Math.max(0, Math.min(levels - 1, q));
        }

        private static int backOf(int q, int scale, int bits) {
            if (bits <= 0) {
                return 0;
            }
            long levels = (1L << bits) - 1;
            return (int) (((2L * q + 1) << scale) / levels - (1L << scale));
        }

        int costOf(int column) {
            int sum = 0;
            for (int at = column; at < VALUES; at += COLUMNS) {
                sum += Math.abs(told[at] - backs[at]);
            }
            return sum;
        }

        int bitsOf(int channel) {
            int sum = 0;
            for (int band = 0; band < BANDS; band++) {
                sum += bits[channel * BANDS + band];
            }
            return sum;
        }

        void undoTwins() {
            System.arraycopy(backs, 0, rejoined, 0, VALUES);
            for (int at = 0; at < VALUES; at++) {
                int column = at % COLUMNS;
                if (column < BANDS && ((twins >> column) & 1) == 1) {
                    int side = backs[at + BANDS];
                    rejoined[at] = backs[at] + ((side + 1) >> 1);
                    rejoined[at + BANDS] = rejoined[at] - side;
                }
            }
        }

        int sumOff() {
            int sum = 0;
            for (int at = 0; at < VALUES; at++) {
                sum += Math.abs(split[at] - rejoined[at]);
            }
            return sum;
        }

        int mostOff() {
            int most = 0;
            for (int at = 0; at < VALUES; at++) {
                most = Math.max(most, Math.abs(split[at] - rejoined[at]));
            }
            return most;
        }

        /** What the hearer knows of a FRAME: its CODE as it came over, and LOUD as it is by then. */
        void read(Code from, int[] numbers) {
            from.rewind();
            from.take(8);
            int byMethod = from.take(8) >> 7;
            int fromPool = from.take(8);
            from.take(8);
            twins = from.take(8);
            for (int column = 0; column < COLUMNS; column++) {
                scales[column] = from.take(4);
            }
            deal(fromPool, byMethod, numbers);
            for (int at = 0; at < VALUES; at++) {
                int column = at % COLUMNS;
                quants[at] = from.take(bits[column]);
                backs[at] = backOf(quants[at], scales[column], bits[column]);
            }
        }
    }

    /** The bytes of a CODE, written and read bit by bit. */
    private static final class Code {
        static final int FIRST_BYTE = 156;
        static final int HEAD_BYTES = 13;
        static final int CHECK_BYTE = 3;

        final int[] bytes = new int[CODE_BYTES];
        int size = 0;
        int at = 0;

        static int bytesFor(int bitsOfBlock) {
            return HEAD_BYTES + (bitsOfBlock * BLOCKS + 7) / 8;
        }

        void become(Code other) {
            System.arraycopy(other.bytes, 0, bytes, 0, CODE_BYTES);
            size = other.size;
        }

        void rewind() {
            at = 0;
        }

        void write(Frame frame, int number, int paired) {
            Arrays.fill(bytes, 0);
            size = Math.min(CODE_BYTES, bytesFor(frame.bitsOf(0) + frame.bitsOf(1)));
            rewind();
            put(FIRST_BYTE, 8);
            put(frame.method * 128 + paired * 64 + number % 64, 8);
            put(frame.pool, 8);
            put(0, 8);
            put(frame.twins, 8);
            for (int column = 0; column < COLUMNS; column++) {
                put(frame.scales[column], 4);
            }
            for (int i = 0; i < VALUES; i++) {
                put(frame.quants[i], frame.bits[i % COLUMNS]);
            }
            bytes[CHECK_BYTE] = check();
        }

        private void put(int v, int width) {
            for (int i = width - 1; i >= 0; i--) {
                if (at < 8 * size) {
                    bytes[at / 8] |= ((v >> i) & 1) << (7 - at % 8);
                }
                at++;
            }
        }

        int take(int width) {
            int v = 0;
            for (int i = 0; i < width; i++) {
                v = 2 * v + (at < 8 * size ? (bytes[at / 8] >> (7 - at % 8)) & 1 : 0);
                at++;
            }
            return v;
        }

        void turnRound(int bit) {
            if (bit >= 0 && bit < 8 * size) {
                bytes[bit / 8] ^= 1 << (7 - bit % 8);
            }
        }

        int check() {
            int c = 15;
            for (int i = 1; i < size; i++) {
                if (i == CHECK_BYTE) {
                    continue;
                }
                for (int shift = 7; shift >= 0; shift--) {
                    int differs = ((c >> 7) ^ (bytes[i] >> shift)) & 1;
                    c = ((2 * c) ^ (29 * differs)) & 255;
                }
            }
            return c;
        }

        /** 0: byte 0 is wrong; 1: CHECK is; 2: nothing seems to be wrong. */
        int look() {
            if (bytes[0] != FIRST_BYTE) {
                return 0;
            }
            return bytes[CHECK_BYTE] == check() ? 2 : 1;
        }
    }

    private static final class Packet {
        int number = 0;
        int sent = 0;
        int over = 0;
        int pieceBytes = 1;
        final Code whole = new Code();
        final Code came = new Code();

        void become(Packet other) {
            number = other.number;
            sent = other.sent;
            over = other.over;
            pieceBytes = other.pieceBytes;
            whole.become(other.whole);
            came.become(other.came);
        }

        void load(int k, Code code, int bytesOfPiece) {
            number = k;
            sent = 0;
            pieceBytes = Math.max(1, bytesOfPiece);
            whole.become(code);
            beginAnew();
        }

        void beginAnew() {
            over = 0;
            came.become(whole);
        }

        int pieces() {
            return (whole.size + pieceBytes - 1) / pieceBytes;
        }

        int bitsOfNextPiece() {
            return 8 * Math.min(pieceBytes, whole.size - over * pieceBytes);
        }

        void damageNextPiece(int bit) {
            came.turnRound(8 * over * pieceBytes + bit);
        }
    }

    /** PACKETS one behind the other, in places that are used again; how many stands in the numbers. */
    private static final class Queue {
        final int[] numbers;
        final int sizeAt;
        final Packet[] places;
        int head = 0;

        Queue(int[] numbers, int sizeAt, int capacity) {
            this.numbers = numbers;
            this.sizeAt = sizeAt;
            places = new Packet[Math.max(1, capacity)];
            for (int i = 0; i < places.length; i++) {
                places[i] = new Packet();
            }
        }

        void become(Queue other) {
            head = other.head;
            for (int i = 0; i < numbers[sizeAt]; i++) {
                Packet mine = at(i);
                Packet its = other.at(i);
                if (mine != null && its != null) {
                    mine.become(its);
                }
            }
        }

        /** The i-th one, or null. */
        Packet at(int i) {
            if (i < 0 || i >= numbers[sizeAt]) {
                return null;
            }
            return places[(head + i) % places.length];
        }

        /** A place behind the last one, with what was left there; null, if there is none. */
        Packet append() {
            if (numbers[sizeAt] >= places.length) {
                return null;
            }
            numbers[sizeAt]++;
            return at(numbers[sizeAt] - 1);
        }

        void removeFirst() {
            if (numbers[sizeAt] > 0) {
                numbers[sizeAt]--;
                head = (head + 1) % places.length;
            }
        }
    }

    /** What became of each PACKET, one number each, so that 2,500 of them stay cheap to keep. */
    private static final class Book {
        static final int DELAYS = 16;
        static final int HOW_SHIFT = 2;
        static final int SENT_SHIFT = 4;
        static final int SLOT_SHIFT = 12;

        final int[] records = new int[ALL_PACKETS];
        final int[] delays = new int[DELAYS];

        void clear() {
            Arrays.fill(records, 0);
            Arrays.fill(delays, 0);
        }

        void become(Book other) {
            System.arraycopy(other.records, 0, records, 0, ALL_PACKETS);
            System.arraycopy(other.delays, 0, delays, 0, DELAYS);
        }

        int status(int k) {
            return records[k] & 3;
        }

        int howHeard(int k) {
            return (records[k] >> HOW_SHIFT) & 3;
        }

        int sentPieces(int k) {
            return (records[k] >> SENT_SHIFT) & 255;
        }

        int arrivalSlot(int k) {
            return (records[k] >> SLOT_SHIFT) - 1;
        }

        void setStatus(int k, int status) {
            if (within(k, 0, ALL_PACKETS - 1)) {
                records[k] = (records[k] & ~3) | status;
            }
        }

        // The player may be ahead of the coder, and beyond the last PACKET of all.
        void setHowHeard(int k, int how) {
            if (within(k, 0, ALL_PACKETS - 1)) {
                records[k] |= how << HOW_SHIFT;
            }
        }

        void addSent(int k) {
            if (within(k, 0, ALL_PACKETS - 1)) {
                records[k] += 1 << SENT_SHIFT;
            }
        }

        void arrive(int k, int slot) {
            if (within(k, 0, ALL_PACKETS - 1)) {
                setStatus(k, STATUS_ARRIVED);
                records[k] |= (slot + 1) << SLOT_SHIFT;
                delays[nearest(slot - SLOTS_OF_A_FRAME * k, 0, DELAYS - 1)]++;
            }
        }

        int delaysAbove(int n) {
            int sum = 0;
            for (int i = n + 1; i < DELAYS; i++) {
                sum += delays[i];
            }
            return sum;
        }
    }

    private static final class Coder {
        final int[] numbers;
        final Tree[] trees = {new Tree(), new Tree()};
        final int[] samples = new int[FRAME_SAMPLES];
        final Frame frame = new Frame();
        final Code code = new Code();

        Coder(int[] numbers) {
            this.numbers = numbers;
        }

        void clear() {
            trees[0].clear();
            trees[1].clear();
        }

        void become(Coder other) {
            trees[0].become(other.trees[0]);
            trees[1].become(other.trees[1]);
            frame.become(other.frame);
            code.become(other.code);
        }

        void codeFrame(int number) {
            for (int channel = 0; channel < CHANNELS; channel++) {
                for (int i = 0; i < FRAME_SAMPLES; i++) {
                    samples[i] = sampleOf(numbers, channel, FRAME_SAMPLES * number + i);
                }
                for (int block = 0; block < BLOCKS; block++) {
                    trees[channel].splitBlock(samples, BANDS * block, frame.split, COLUMNS * block + BANDS * channel);
                }
            }
            frame.tell(numbers[PAIRED]);
            frame.deal(numbers[IN_USE], numbers[METHOD], numbers);
            frame.quantise();
            code.write(frame, number, numbers[PAIRED]);
            numbers[CODED]++;
            numbers[BYTES] += code.size;
        }

        // The mark of a PACKET GIVEN UP goes also while STEERED is 0: only the last eight FRAMES count.
        void steer() {
            if (numbers[CODED] % 8 != 0) {
                return;
            }
            if (numbers[STEERED] == 1) {
                int used = numbers[IN_USE];
                boolean less = numbers[GIVEN_UP_IN_LINE] == 1;
                numbers[IN_USE] = less ? Math.max(2, used * 3 / 4) : Math.min(numbers[POOL], used + 2);
            }
            numbers[GIVEN_UP_IN_LINE] = 0;
        }
    }

    private static final class Sender {
        final int[] numbers;
        final Book book;
        final Queue line;
        final Queue buffer;

        Sender(int[] numbers, Book book, Queue buffer) {
            this.numbers = numbers;
            this.book = book;
            this.buffer = buffer;
            line = new Queue(numbers, IN_LINE, LINE_PLACES);
        }

        void become(Sender other) {
            line.become(other.line);
        }

        void enqueue(int number, Code code) {
            Packet packet = line.append();
            if (packet != null) {
                packet.load(number, code, numbers[PIECE]);
                book.setStatus(number, STATUS_IN_LINE);
            }
        }

        void passSlot(int slot) {
            giveUpLateOnes(slot);
            Packet packet = line.at(0);
            if (packet == null) {
                numbers[IDLE]++;
                return;
            }
            packet.sent++;
            numbers[SENT]++;
            book.addSent(packet.number);
            if (isLost()) {
                return;
            }
            numbers[CAME_OVER]++;
            perhapsDamage(packet);
            packet.over++;
            if (packet.over >= packet.pieces()) {
                endOf(packet, slot);
            }
        }

        // DEADLINE is the same for all, so those that are too late stand in front.
        private void giveUpLateOnes(int slot) {
            for (int i = 0; i < LINE_PLACES; i++) {
                Packet packet = line.at(0);
                if (packet == null || SLOTS_OF_A_FRAME * packet.number + numbers[DEADLINE] > slot) {
                    return;
                }
                giveUpFirst(packet);
                numbers[GIVEN_UP_IN_LINE] = 1;
            }
        }

        private void giveUpFirst(Packet packet) {
            numbers[GIVEN_UP]++;
            book.setStatus(packet.number, STATUS_GIVEN_UP);
            line.removeFirst();
        }

        private boolean isLost() {
            if (numbers[BURST] > 0) {
                numbers[BURST]--;
                return true;
            }
            return draw() % 100 < numbers[LOSS];
        }

        private void perhapsDamage(Packet packet) {
            if (numbers[ERRORS] > 0 && draw() % 1000 < numbers[ERRORS]) {
                numbers[DAMAGED]++;
                packet.damageNextPiece(draw() % Math.max(1, packet.bitsOfNextPiece()));
            }
        }

        private int draw() {
            numbers[DRAWN] = (1103 * numbers[DRAWN] + 12345) % 1000003;
            return numbers[DRAWN] / 16;
        }

        private void endOf(Packet packet, int slot) {
            boolean late = packet.number < numbers[NEXT];
            if (packet.came.look() != 2) {
                numbers[BROKEN]++;
                packet.beginAnew();
            } else if (!late && numbers[LEVEL] >= MOST_LEVEL) {
                giveUpFirst(packet);
            } else {
                numbers[ARRIVED]++;
                book.arrive(packet.number, slot);
                Packet place = late ? null : buffer.append();
                if (place != null) {
                    place.become(packet);
                }
                line.removeFirst();
            }
        }
    }

    /** The hearer of one CHANNEL: its NODES, and the SAMPLES kept with room for PLAIN ones behind them. */
    private static final class Ear {
        final Tree tree = new Tree();
        final int[] row = new int[KEPT_SAMPLES + FRAME_SAMPLES];
        final int[] made = new int[FRAME_SAMPLES];
        final int[] fresh = new int[FRAME_SAMPLES];
        int lag = LEAST_LAG;
        int lagSum = 0;

        void clear() {
            tree.clear();
            Arrays.fill(row, 0);
        }

        void become(Ear other) {
            tree.become(other.tree);
            System.arraycopy(other.row, 0, row, 0, KEPT_SAMPLES);
        }

        int sampleAgo(int ago) {
            return row[KEPT_SAMPLES - 1 - ago];
        }

        void makeUp(int fade) {
            findLag();
            for (int i = 0; i < FRAME_SAMPLES; i++) {
                row[KEPT_SAMPLES + i] = row[KEPT_SAMPLES + i - lag];
                made[i] = (row[KEPT_SAMPLES + i] * fade) >> 3;
            }
        }

        private void findLag() {
            lagSum = MOST_INT;
            for (int distance = LEAST_LAG; distance <= MOST_LAG; distance++) {
                int sum = 0;
                // What is no less already can't be the least any more.
                for (int i = KEPT_SAMPLES - FRAME_SAMPLES; i < KEPT_SAMPLES && sum < lagSum; i++) {
                    sum += Math.abs(row[i] - row[i - distance]);
                }
                if (sum < lagSum) {
                    lag = distance;
                    lagSum = sum;
                }
            }
        }

        void hearBands(int[] bands, int channel) {
            for (int block = 0; block < BLOCKS; block++) {
                tree.joinBlock(bands, COLUMNS * block + BANDS * channel, fresh, BANDS * block);
            }
            for (int i = 0; i < FRAME_SAMPLES; i++) {
                fresh[i] = nearestSample(fresh[i]);
            }
        }

        void blendWithMade() {
            for (int i = 0; i < 8; i++) {
                fresh[i] = ((8 - i) * made[i] + i * fresh[i]) >> 3;
            }
        }

        void keepSamples(int[] samples) {
            System.arraycopy(row, FRAME_SAMPLES, row, 0, KEPT_SAMPLES - FRAME_SAMPLES);
            System.arraycopy(samples, 0, row, KEPT_SAMPLES - FRAME_SAMPLES, FRAME_SAMPLES);
        }
    }

    private static final class Player {
        final int[] numbers;
        final Book book;
        final Queue buffer;
        final Ear[] ears = {new Ear(), new Ear()};
        final Frame frame = new Frame();
        final int[] records = new int[TOLD_FRAMES * RECORD_PLACES];

        Player(int[] numbers, Book book, Queue buffer) {
            this.numbers = numbers;
            this.book = book;
            this.buffer = buffer;
        }

        void clear() {
            ears[0].clear();
            ears[1].clear();
        }

        void become(Player other) {
            buffer.become(other.buffer);
            ears[0].become(other.ears[0]);
            ears[1].become(other.ears[1]);
            System.arraycopy(other.records, 0, records, 0, records.length);
        }

        int fade() {
            return Math.max(0, FULL_FADE - numbers[MADE_UP_NOW]);
        }

        int toldFrames() {
            return Math.min(TOLD_FRAMES, numbers[NEXT]);
        }

        int recordOf(int ago, int what) {
            return records[recordAt(numbers[NEXT] - 1 - ago) + what];
        }

        int lateness(int ago) {
            return recordOf(ago, RECORD_SLOT) - SLOTS_OF_A_FRAME * (numbers[NEXT] - 1 - ago);
        }

        private static int recordAt(int number) {
            return Math.floorMod(number, TOLD_FRAMES) * RECORD_PLACES;
        }

        /** How many FRAMES are to be PLAYED at this SLOT. */
        int tick() {
            if (numbers[LEVEL] >= numbers[CENTER]) {
                numbers[BEGUN] = 1;
            }
            if (numbers[BEGUN] == 0) {
                return 0;
            }
            int phase = numbers[PHASE] + 1000 + numbers[DRIFT] + numbers[TRIM];
            numbers[PHASE] = phase % PHASE_OF_A_FRAME;
            return phase / PHASE_OF_A_FRAME;
        }

        void playNext(int slot) {
            int number = numbers[NEXT];
            int level = numbers[LEVEL];
            Packet packet = buffer.at(0);
            boolean byCode = packet != null && packet.number == number;
            int fade = byCode ? FULL_FADE : fade();
            numbers[FILL] += level;
            if (byCode) {
                hearCode(packet.came);
                buffer.removeFirst();
            } else {
                hearMadeUp(fade);
            }
            int how = byCode ? HEARD_BY_CODE : HEARD_MADE_UP;
            int at = recordAt(number);
            records[at + RECORD_HOW] = how;
            records[at + RECORD_LEVEL] = level;
            records[at + RECORD_TRIM] = numbers[TRIM];
            records[at + RECORD_OFF] = compare(number, byCode);
            records[at + RECORD_FADE] = fade;
            records[at + RECORD_SLOT] = slot;
            book.setHowHeard(number, how);
            numbers[NEXT]++;
            if (numbers[NEXT] % 8 == 0) {
                trim();
            }
        }

        private void hearCode(Code code) {
            frame.read(code, numbers);
            frame.undoTwins();
            for (int channel = 0; channel < CHANNELS; channel++) {
                Ear ear = ears[channel];
                ear.hearBands(frame.rejoined, channel);
                if (numbers[MADE_UP_NOW] > 0) {
                    ear.makeUp(fade());
                    ear.blendWithMade();
                }
                ear.keepSamples(ear.fresh);
            }
            numbers[BY_CODE]++;
            numbers[MADE_UP_NOW] = 0;
        }

        private void hearMadeUp(int fade) {
            for (int channel = 0; channel < CHANNELS; channel++) {
                Ear ear = ears[channel];
                ear.makeUp(fade);
                ear.keepSamples(ear.made);
            }
            numbers[MADE_UP]++;
            numbers[MADE_UP_NOW]++;
            numbers[MADE_UP_MOST] = Math.max(numbers[MADE_UP_MOST], numbers[MADE_UP_NOW]);
        }

        private int compare(int number, boolean byCode) {
            int sum = 0;
            int most = 0;
            for (int channel = 0; channel < CHANNELS; channel++) {
                for (int i = 0; i < FRAME_SAMPLES; i++) {
                    int sample = sampleOf(numbers, channel, FRAME_SAMPLES * number + i);
                    int off = Math.abs(ears[channel].sampleAgo(FRAME_SAMPLES - 1 - i) - sample);
                    sum += off;
                    most = Math.max(most, off);
                }
            }
            if (byCode) {
                numbers[OFF] += sum;
                numbers[OFF_MOST] = Math.max(numbers[OFF_MOST], most);
            }
            return sum;
        }

        private void trim() {
            int e = numbers[FILL] - 8 * numbers[CENTER];
            numbers[HOLD] = nearest(numbers[HOLD] + e, -1600, 1600);
            numbers[TRIM] = nearest((4 * e + numbers[HOLD]) >> 3, -100, 100);
            numbers[FILL] = 0;
        }
    }

    /** All that is so at a time: what keep() keeps and would() goes on with. */
    private static final class Way {
        final int[] numbers = new int[NUMBERS];
        final Book book = new Book();
        final Queue buffer = new Queue(numbers, LEVEL, MOST_LEVEL);
        final Coder coder = new Coder(numbers);
        final Sender sender = new Sender(numbers, book, buffer);
        final Player player = new Player(numbers, book, buffer);

        Way() {
            System.arraycopy(FIRST_TOLD, 0, numbers, TOLD, FIRST_TOLD.length);
            System.arraycopy(FIRST_LOUD, 0, numbers, LOUD, FIRST_LOUD.length);
            System.arraycopy(FIRST_TONES, 0, numbers, TONES, FIRST_TONES.length);
            numbers[IN_USE] = numbers[POOL];
            numbers[DRAWN] = numbers[SEED];
        }

        void become(Way other) {
            System.arraycopy(other.numbers, 0, numbers, 0, NUMBERS);
            book.become(other.book);
            coder.become(other.coder);
            sender.become(other.sender);
            player.become(other.player);
        }

        void startAnew() {
            for (int at = 0; at < LOUD; at++) {
                if (at < TOLD || at >= IN_USE) {
                    numbers[at] = 0;
                }
            }
            numbers[IN_USE] = numbers[POOL];
            numbers[DRAWN] = numbers[SEED];
            book.clear();
            coder.clear();
            player.clear();
        }

        void passSlot() {
            int slot = numbers[SLOTS];
            if (slot % SLOTS_OF_A_FRAME == 0) {
                int number = slot / SLOTS_OF_A_FRAME;
                coder.codeFrame(number);
                sender.enqueue(number, coder.code);
                coder.steer();
            }
            sender.passSlot(slot);
            for (int due = player.tick(); due > 0; due--) {
                player.playNext(slot);
            }
            numbers[SLOTS] = slot + 1;
        }
    }
}
