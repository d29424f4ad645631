/** Terms I, sentence by sentence: what the source, the bands, the bits and the code do at their edges. */
public final class SoundEdgesTest {
    private static final int NONE = Checks.NONE;
    private static final Checks CHECKS = new Checks();

    public static void main(String[] args) {
        sourceRisesBelowHalfThePeriod();
        sampleIsModuloThePeriod();
        noiseAboveZeroAlone();
        noiseIsModulo();
        sourceIsTheNearest();
        nodesGoDownwards();
        nodesGoOnFromFrameToFrame();
        nodesOfEachChannel();
        blocksAreEightSamples();
        middleGoesDownwards();
        twinnedIfLess();
        bandSevenIsNeverTwinned();
        scaleOfPowers();
        needByLoudness();
        needAboveZeroAlone();
        theFirstOfLikeOnes();
        oneAloneIsPassedOver();
        oneMayBeLeft();
        poolAtMost();
        quantsAtTheEdges();
        quantsOfLoudSound();
        codeOfNumbers();
        codeIsFilledWithZero();
        codeOfScalesAndTwins();
        checkOfAllBytesButTwo();
        CHECKS.end();
    }

    private static void due(String what, long got, long want) {
        CHECKS.due(what, got, want);
    }

    private static HeadsetBands toned(int period, int left, int right) {
        HeadsetBands x = new HeadsetBands();
        x.tone(0, period, left, 0);
        x.tone(1, period, right, 0);
        return x;
    }

    /** Both channels -64, 64, ..: SCALES 4 4 4 6 8 7 4 6 left, all TWINNED but band 7, which is 6 in both. */
    private static HeadsetBands small() {
        HeadsetBands x = toned(2, 64, 64);
        x.run(1);
        return x;
    }

    /** small(), with no band loud enough to get bits by METHOD 1. */
    private static HeadsetBands quiet() {
        HeadsetBands x = small();
        for (int b = 0; b < 8; b++) {
            x.loud(b, 8);
        }
        return x;
    }

    private static void samples(HeadsetBands x, int channel, int from, int... want) {
        for (int i = 0; i < want.length; i++) {
            due("source(" + channel + ", " + (from + i) + ")", x.source(channel, from + i), want[i]);
        }
    }

    private static void bands(String what, HeadsetBands x, int channel, int block, int... want) {
        for (int b = 0; b < 8; b++) {
            due(what + ": band " + b + " of channel " + channel, x.band(channel, b, block, 0), want[b]);
        }
    }

    // "4 h u by p, less h, if 2 u is below p, else 3 h less 4 h u by p"
    private static void sourceRisesBelowHalfThePeriod() {
        samples(toned(2, 7, 0), 0, 0, -7, 7);
        samples(toned(3, 7, 0), 0, 0, -7, 2, 3);
        samples(toned(4, 7, 0), 0, 0, -7, 0, 7, 0);
        samples(toned(5, 3, 0), 0, 0, -3, -1, 1, 2, 0);
        samples(toned(200, 2000, 0), 0, 99, 1960, 2000, 1960);
        samples(toned(199, 2000, 0), 0, 98, 1939, 1979, 1980, 1940);
        samples(toned(200, 0, 0), 0, 99, 0, 0, 0);
        samples(toned(3, 1, 0), 0, 0, -1, 0, 1);
    }

    // "u is n modulo p"
    private static void sampleIsModuloThePeriod() {
        samples(toned(200, 100, 0), 0, 198, -96, -98, -100, -98);
        samples(toned(3, 7, 0), 0, 99996, -7, 2, 3, -7);
        samples(toned(2, 5, 9), 1, 99998, -9, 9);
    }

    // "with m above 0"
    private static void noiseAboveZeroAlone() {
        HeadsetBands x = toned(4, 100, 0);
        x.sets(0, 1);
        samples(x, 0, 0, -100, 0, 100, 0);
        x.sets(0, 999999);
        samples(x, 0, 0, -100, 0, 100, 0);
        x.tone(0, 4, 100, 1);
        // 999,999 modulo 10,007 is 9,306, which is 0 modulo 3
        samples(x, 0, 0, -101);
    }

    // "z modulo (2 m and 1), less m, z being (..) modulo 10,007"
    private static void noiseIsModulo() {
        HeadsetBands x = new HeadsetBands();
        x.tone(0, 2, 0, 500);
        x.tone(1, 2, 0, 500);
        int[][] seeds = {{0, -500}, {1, -499}, {1000, 500}, {1001, -500}, {1002, -499}, {10006, 497}, {10007, -500},
            {10008, -499}, {20013, 497}, {20014, -500}};
        for (int[] s : seeds) {
            x.sets(0, s[0]);
            due("noise by SEED " + s[0], x.source(0, 0), s[1]);
        }
        // 104,729 is 4,659 modulo 10,007, so 5,348 more make it 0
        x.sets(0, 5348);
        samples(x, 1, 0, -500);
        x.sets(0, 5347);
        samples(x, 1, 0, 497);
        // 7,919 and 2,088 are 10,007
        x.sets(0, 2088);
        samples(x, 0, 1, -500);
        x.tone(0, 2, 0, 1);
        for (int seed = 0; seed < 4; seed++) {
            x.sets(0, seed);
            due("NOISE 1 by SEED " + seed, x.source(0, 0), seed % 3 - 1);
        }
    }

    // "all -2,048 .. 2,047, the nearest"
    private static void sourceIsTheNearest() {
        HeadsetBands x = new HeadsetBands();
        x.tone(0, 2, 2000, 500);
        int[][] low = {{450, -2048}, {451, -2048}, {452, -2048}, {453, -2047}, {454, -2046}};
        for (int[] s : low) {
            x.sets(0, s[0]);
            due("SAMPLE 0 by SEED " + s[0], x.source(0, 0), s[1]);
        }
        // z of SAMPLE 1 is SEED less 2,088; 547 less 500 is the most that 2,000 can have more
        int[][] high = {{2633, 2045}, {2634, 2046}, {2635, 2047}, {2636, 2047}, {2637, 2047}};
        for (int[] s : high) {
            x.sets(0, s[0]);
            due("SAMPLE 1 by SEED " + s[0], x.source(0, 1), s[1]);
        }
    }

    // "Quotients are downwards": -1 by 4 is -1, -3 by 4 too
    private static void nodesGoDownwards() {
        HeadsetBands x = toned(2, 1, 1);
        x.run(1);
        bands("height 1", x, 0, 0, 0, 0, 0, 0, -3, -1, 0, 0);
        due("height 1, BLOCK 1", x.band(0, 4, 1, 0), -3);
        due("height 1, BLOCK 2", x.band(0, 4, 2, 0), -2);
        due("height 1, BLOCK 1", x.band(0, 5, 1, 0), 0);
    }

    // "The coder SPLITS with NODES of its own for each CHANNEL, from FRAME to FRAME"
    private static void nodesGoOnFromFrameToFrame() {
        HeadsetBands x = small();
        x.tone(0, 2, 0, 0);
        x.run(4);
        // MEMORIES of NODES 1, 3 and 6 are those of -64, 64, .., all others 0
        bands("silence behind sound", x, 0, 0, -12, -13, -6, -38, 25, 68, 8, 32);
        x.restart();
        x.run(1);
        bands("MEMORIES 0 at first", x, 0, 0, 0, 0, 0, 0, 0, 0, 0, 0);
        bands("the other channel from the first", x, 1, 0, 11, 13, 5, 38, -153, -68, -8, -32);
    }

    private static void nodesOfEachChannel() {
        HeadsetBands x = small();
        x.tone(0, 2, 0, 0);
        x.run(4);
        bands("the other channel goes on", x, 1, 0, 0, 0, 0, 0, -128, 0, 0, 0);
    }

    // "A BLOCK: eight SAMPLES of a CHANNEL one behind the other"; "SAMPLES 32 k .. 32 k and 31 of FRAME k"
    private static void blocksAreEightSamples() {
        Nodes[] nodes = {new Nodes(), new Nodes()};
        Story story = new Story().when(0, x -> {
            x.tone(0, 37, 1900, 400);
            x.tone(1, 200, 2000, 0);
        });
        for (int frame = 0; frame < 4; frame++) {
            HeadsetBands x = story.at(4 * frame + 1);
            for (int block = 0; block < 8; block++) {
                int c = block / 4;
                int[] samples = new int[8];
                for (int i = 0; i < 8; i++) {
                    samples[i] = x.source(c, 32 * frame + 8 * (block % 4) + i);
                }
                bands("FRAME " + frame + ", BLOCK " + block % 4, x, c, block % 4, nodes[c].bands(samples));
            }
        }
    }

    // "MIDDLE and SIDE of l, r: (l and r) by 2, l less r"
    private static void middleGoesDownwards() {
        HeadsetBands x = toned(2, 1, 2);
        x.run(1);
        int[] right = {-6, -5, -4, -4};
        int[] left = {-3, -3, -2, -2};
        int[] middle = {-5, -4, -3, -3};
        int[] side = {3, 2, 2, 2};
        for (int k = 0; k < 4; k++) {
            due("right of BLOCK " + k, x.band(1, 4, k, 0), right[k]);
            due("left of BLOCK " + k, x.band(0, 4, k, 0), left[k]);
            due("MIDDLE of BLOCK " + k, x.band(0, 4, k, 1), middle[k]);
            due("SIDE of BLOCK " + k, x.band(1, 4, k, 1), side[k]);
        }
        HeadsetBands y = toned(37, 501, 640);
        y.run(5);
        int odd = 0;
        for (int b = 0; b < 7; b++) {
            for (int k = 0; k < 4; k++) {
                int l = y.band(0, b, k, 0);
                int r = y.band(1, b, k, 0);
                boolean twin = y.dealt(0, b, 3) == 1;
                due("left as coded", y.band(0, b, k, 1), twin ? Math.floorDiv(l + r, 2) : l);
                due("right as coded", y.band(1, b, k, 1), twin ? l - r : r);
                odd += twin && l + r < 0 && (l + r) % 2 != 0 ? 1 : 0;
            }
        }
        due("odd sums below 0 are among them", odd > 0 ? 1 : 0, 1);
    }

    // "if all MIDDLES and SIDES of its four BLOCKS without sign together are less than all l and r"
    private static void twinnedIfLess() {
        // 512 can be halved nine times, so that left is just three times right in all bands
        HeadsetBands equal = toned(2, 1536, 512);
        equal.run(1);
        for (int b = 0; b < 7; b++) {
            due("left is three times right, BAND " + b, equal.paired(b, 1), equal.paired(b, 0));
            due("as much is not less, BAND " + b, equal.dealt(0, b, 3), 0);
        }
        due("no TWINNED BANDS", equal.code(4), 0);
        HeadsetBands less = toned(2, 1535, 512);
        less.run(1);
        HeadsetBands more = toned(2, 1537, 512);
        more.run(1);
        due("less by a little", less.paired(4, 1) < less.paired(4, 0) ? 1 : 0, 1);
        due("it is TWINNED", less.dealt(0, 4, 3), 1);
        due("more by a little", more.paired(4, 1) > more.paired(4, 0) ? 1 : 0, 1);
        due("it is not TWINNED", more.dealt(0, 4, 3), 0);
        due("on paper: as much is not less", equal.coded(40, 1, 1, 1), 0);
        due("on paper: less", (less.coded(40, 1, 1, 1) >> 4) & 1, 1);
        HeadsetBands silence = toned(2, 0, 0);
        silence.run(1);
        due("0 is not less than 0", silence.code(4), 0);
        HeadsetBands apart = toned(2, 64, 64);
        apart.sets(3, 0);
        apart.run(1);
        due("with PAIRED 0 none is TWINNED", apart.code(4), 0);
        due("with PAIRED 0 the right is as SPLIT", apart.band(1, 4, 0, 1), -153);
        due("on paper with PAIRED 1", apart.coded(40, 1, 1, 1), 127);
        due("on paper with PAIRED 0", small().coded(40, 1, 0, 1), 0);
    }

    // "a BAND 0 .. 6 is TWINNED"
    private static void bandSevenIsNeverTwinned() {
        HeadsetBands x = small();
        due("BAND 6 would be less", x.paired(6, 1) < x.paired(6, 0) ? 1 : 0, 1);
        due("BAND 7 would be less", x.paired(7, 1) < x.paired(7, 0) ? 1 : 0, 1);
        due("BAND 6 is TWINNED", x.dealt(1, 6, 3), 1);
        due("BAND 7 is not", x.dealt(1, 7, 3), 0);
        due("the bits of both", x.code(4), 127);
        due("BAND 7 right, as coded", x.band(1, 7, 0, 1), -32);
        due("on paper", x.coded(2, 0, 1, 1), 127);
    }

    // "the least s 0 .. 15 so that all four are above -2 to the s, and below it"
    private static void scaleOfPowers() {
        int[][] steady = {{0, 0}, {1, 2}, {2, 3}, {3, 3}, {4, 4}, {31, 6}, {32, 7}, {33, 7}, {63, 7}, {64, 8}, {65, 8},
            {511, 10}, {512, 11}, {513, 11}, {1023, 11}, {1024, 12}, {1025, 12}, {2000, 12}};
        for (int[] s : steady) {
            HeadsetBands x = toned(2, s[0], 0);
            x.sets(3, 0);
            x.run(9);
            due("BAND 4 is steady", x.band(0, 4, 3, 0), -2 * s[0]);
            due("BAND 4 is steady from the first", x.band(0, 4, 0, 0), -2 * s[0]);
            due("SCALE of " + -2 * s[0], x.dealt(0, 4, 0), s[1]);
        }
        // the SIDE is above 0 where the right is louder
        int[][] sides = {{64, 95, 6}, {64, 96, 7}, {64, 97, 7}, {256, 383, 8}, {256, 384, 9}};
        for (int[] s : sides) {
            HeadsetBands x = toned(2, s[0], s[1]);
            x.run(9);
            due("the SIDE of BAND 4", x.band(1, 4, 3, 1), 2 * (s[1] - s[0]));
            due("SCALE of " + 2 * (s[1] - s[0]), x.dealt(1, 4, 0), s[2]);
        }
        // 1 and -1: height 1 has -1, 0, 0, 0 in BAND 5 of its first FRAME
        HeadsetBands one = toned(2, 1, 0);
        one.sets(3, 0);
        one.run(1);
        due("SCALE of -1, 0, 0, 0", one.dealt(0, 5, 0), 1);
        due("SCALE of 0", one.dealt(0, 0, 0), 0);
        // the SIDES 2,337, -1,204, -8,270, 1,278: about the most that a SOURCE makes
        HeadsetBands most = new HeadsetBands();
        most.tone(0, 3, 2000, 500);
        most.tone(1, 7, 2000, 500);
        most.sets(0, 777);
        most.run(9);
        due("below -8,192", most.band(1, 3, 2, 1), -8270);
        due("SCALE 14", most.dealt(1, 3, 0), 14);
        due("in the CODE", most.code(10) % 16, 14);
        allScales();
    }

    private static void allScales() {
        boolean[] exact = new boolean[2];
        for (int height = 1; height < 2000; height += 13) {
            HeadsetBands x = toned(2 + height % 31, height, 2000 - height);
            x.run(1);
            for (int b = 0; b < 16; b++) {
                int most = 0;
                for (int k = 0; k < 4; k++) {
                    int v = x.band(b / 8, b % 8, k, 1);
                    most = Math.max(most, Math.abs(v));
                }
                int scale = x.dealt(b / 8, b % 8, 0);
                due("all below, height " + height, most < 1 << scale ? 1 : 0, 1);
                due("the least, height " + height, scale == 0 || most >= 1 << (scale - 1) ? 1 : 0, 1);
                exact[0] |= scale > 3 && most == 1 << (scale - 1);
                exact[1] |= scale > 3 && most == (1 << scale) - 1;
            }
        }
        due("a power of 2 is among them", exact[0] ? 1 : 0, 1);
        due("one less than a power of 2, too", exact[1] ? 1 : 0, 1);
    }

    // "l is SCALE less the LOUD of the BAND; l by 2, if it is above 0, else l; SCALE 0: 0 by both"
    private static void needByLoudness() {
        HeadsetBands x = small();
        int[] needs = {4, 3, 3, 2, 2, 1, 1, 0, 0, -1, -2, -3, -4};
        for (int loud = -4; loud <= 8; loud++) {
            x.loud(0, loud);
            due("NEED of SCALE 4 by LOUD " + loud, x.dealt(0, 0, 1), needs[loud + 4]);
            due("NEED of SCALE 0 by LOUD " + loud, x.dealt(1, 0, 1), 0);
            due("BITS of SCALE 0 by LOUD " + loud, x.dealtBy(128, 1, 1, 0), 0);
        }
        HeadsetBands y = toned(2, 64, 64);
        y.sets(2, 0);
        y.loud(0, -4);
        y.loud(4, 8);
        y.run(1);
        due("NEED by level", y.dealt(0, 4, 1), 8);
        due("NEED by level of SCALE 4", y.dealt(0, 0, 1), 4);
        due("NEED by level of SCALE 0", y.dealt(1, 0, 1), 0);
    }

    // "that with the greatest NEED less BITS, if that is above 0"; "gets one more (two, if it has 0)"
    private static void needAboveZeroAlone() {
        HeadsetBands x = quiet();
        due("no NEED above 0", x.coded(128, 1, 1, 0), 13);
        x.loud(4, 7);
        due("NEED 0 of l 1", x.dealt(0, 4, 1), 0);
        due("gets none", x.dealtBy(128, 1, 0, 4), 0);
        x.loud(4, 6);
        due("NEED 1", x.dealt(0, 4, 1), 1);
        due("gets two", x.dealtBy(2, 1, 0, 4), 2);
        due("and no more", x.dealtBy(128, 1, 0, 4), 2);
        x.loud(4, 4);
        due("NEED 2 gets two", x.dealtBy(128, 1, 0, 4), 2);
        x.loud(4, 2);
        due("NEED 3 of 2", x.dealtBy(2, 1, 0, 4), 2);
        due("NEED 3 of 3", x.dealtBy(3, 1, 0, 4), 3);
        due("NEED 3 of 4", x.dealtBy(4, 1, 0, 4), 3);
        x.loud(4, -4);
        for (int pool = 2; pool < 9; pool++) {
            due("NEED 6 of " + pool, x.dealtBy(pool, 1, 0, 4), Math.min(6, pool));
        }
        due("BITS of all by it", x.coded(128, 1, 1, 0), 13 + 3);
        // BAND 4 alone: -4,000, SCALE 12
        HeadsetBands y = toned(2, 2000, 0);
        y.sets(1, 128);
        y.sets(2, 0);
        y.run(9);
        for (int pool = 2; pool < 15; pool++) {
            due("NEED 12 of " + pool, y.dealtBy(pool, 0, 0, 4), Math.min(12, pool));
        }
        due("twelve BITS of -4,000", y.band(0, 4, 0, 2), 47);
        due("come back", y.band(0, 4, 0, 3), -4001);
        due("bytes", y.code(NONE), 13 + 6);
    }

    private static void dealt(HeadsetBands x, int pool, int want3, int want7, int want15) {
        due("BAND 3 of " + pool, x.dealtBy(pool, 1, 0, 3), want3);
        due("BAND 7 of " + pool, x.dealtBy(pool, 1, 0, 7), want7);
        due("BAND 7 of CHANNEL 1 of " + pool, x.dealtBy(pool, 1, 1, 7), want15);
    }

    // "the first of like ones" (CHANNEL 0 first, BANDS rising)
    private static void theFirstOfLikeOnes() {
        HeadsetBands x = quiet();
        x.loud(3, 0);
        x.loud(7, 0);
        dealt(x, 2, 2, 0, 0);
        dealt(x, 4, 2, 2, 0);
        dealt(x, 6, 2, 2, 2);
        dealt(x, 7, 3, 2, 2);
        dealt(x, 8, 3, 3, 2);
        dealt(x, 9, 3, 3, 3);
        dealt(x, 128, 3, 3, 3);
        // the greater NEED comes first, though it stands behind
        x.loud(7, -2);
        dealt(x, 2, 0, 2, 0);
        dealt(x, 4, 0, 2, 2);
        dealt(x, 6, 2, 2, 2);
        dealt(x, 7, 2, 3, 2);
        dealt(x, 8, 2, 3, 3);
        dealt(x, 9, 3, 3, 3);
        dealt(x, 11, 3, 4, 4);
    }

    // "what can't have two, because one alone is left, is passed over"
    private static void oneAloneIsPassedOver() {
        HeadsetBands x = quiet();
        x.loud(3, 0);
        x.loud(7, 0);
        dealt(x, 3, 3, 0, 0);
        dealt(x, 5, 3, 2, 0);
        x.loud(7, -2);
        dealt(x, 3, 0, 3, 0);
        dealt(x, 5, 0, 3, 2);
        // what is passed over is greater by far
        x.loud(7, -4);
        x.loud(3, 8);
        x.loud(4, -4);
        due("NEED 6", x.dealt(0, 4, 1), 6);
        due("NEED 5", x.dealt(0, 7, 1), 5);
        due("BAND 4 of 3", x.dealtBy(3, 1, 0, 4), 3);
        due("BAND 7 of 3", x.dealtBy(3, 1, 0, 7), 0);
        due("BAND 4 of 4", x.dealtBy(4, 1, 0, 4), 2);
        due("BAND 7 of 4", x.dealtBy(4, 1, 0, 7), 2);
    }

    // "and so on, till none can"
    private static void oneMayBeLeft() {
        HeadsetBands x = quiet();
        x.loud(3, 2);
        x.loud(4, 4);
        due("BAND 3 has what it needs", x.dealtBy(3, 1, 0, 3), 2);
        due("BAND 4 can't have two", x.dealtBy(3, 1, 0, 4), 0);
        due("one is left", x.coded(3, 1, 1, 0), 14);
        due("two are enough", x.dealtBy(4, 1, 0, 4), 2);
        due("all of them", x.coded(4, 1, 1, 0), 15);
        HeadsetBands y = toned(2, 64, 64);
        for (int b = 0; b < 8; b++) {
            y.loud(b, b == 3 ? 2 : b == 4 ? 4 : 8);
        }
        y.sets(1, 3);
        y.run(1);
        due("share of POOL 3", y.share(NONE), 2);
    }

    // "All together are POOL at most"
    private static void poolAtMost() {
        HeadsetBands x = new HeadsetBands();
        x.tone(0, 13, 2000, 500);
        x.tone(1, 29, 2000, 500);
        x.sets(2, 0);
        for (int pool : new int[] {2, 3, 4, 39, 40, 41, 127, 128}) {
            x.restart();
            x.sets(1, pool);
            x.run(1);
            due("all of POOL " + pool, x.share(NONE), pool);
            due("in both channels", x.share(0) + x.share(1), pool);
            due("bytes", x.code(NONE), 13 + (pool + 1) / 2);
        }
    }

    // "QUANT of v ..: 0 .. L less 1"; "Back: .."; "0 for b 0"
    private static void quantsAtTheEdges() {
        HeadsetBands x = toned(2, 1, 1);
        x.sets(2, 0);
        x.run(1);
        due("SCALE 2", x.dealt(0, 4, 0), 2);
        due("SCALE 1", x.dealt(0, 5, 0), 1);
        due("two BITS for NEED 1", x.dealt(0, 5, 2), 2);
        due("the least of SCALE 1: -1", x.band(0, 5, 0, 2), 0);
        due("-1 comes back, downwards", x.band(0, 5, 0, 3), -2);
        due("0 of SCALE 1", x.band(0, 5, 1, 2), 1);
        due("0 comes back", x.band(0, 5, 1, 3), 0);
        due("-3 of SCALE 2", x.band(0, 4, 0, 2), 0);
        due("-3 comes back", x.band(0, 4, 0, 3), -3);
        due("-2 of SCALE 2", x.band(0, 4, 2, 2), 0);
        due("without BITS: NONE", x.band(0, 0, 0, 2), NONE);
        due("without BITS: 0", x.band(0, 0, 0, 3), 0);
        HeadsetBands y = toned(2, 64, 64);
        y.sets(2, 0);
        y.sets(1, 128);
        y.run(1);
        int[] scale4 = {11, 2, -2, 0};
        int[] quants = {12, 8, 6, 7};
        int[] backs = {10, 2, -3, 0};
        for (int k = 0; k < 4; k++) {
            due("four BITS of " + scale4[k], y.band(0, 0, k, 2), quants[k]);
            due("back of " + scale4[k], y.band(0, 0, k, 3), backs[k]);
        }
    }

    private static void quantsOfLoudSound() {
        boolean least = false;
        boolean most = false;
        for (int seed = 0; seed < 40; seed++) {
            HeadsetBands x = new HeadsetBands();
            x.tone(0, 2 + seed, 2000, 500);
            x.tone(1, 3 + 2 * seed, 1500, 300);
            x.sets(0, 9 * seed);
            x.sets(2, seed % 2);
            x.sets(1, 20 + 2 * seed);
            x.run(1);
            for (int at = 0; at < 64; at++) {
                int c = at / 32;
                int b = at / 4 % 8;
                long power = 1L << x.dealt(c, b, 0);
                long levels = (1L << x.dealt(c, b, 2)) - 1;
                if (levels == 0) {
                    continue;
                }
                long q = Math.floorDiv((x.band(c, b, at % 4, 1) + power) * levels, 2 * power);
                due("QUANT", x.band(c, b, at % 4, 2), q);
                due("back", x.band(c, b, at % 4, 3), Math.floorDiv((2 * q + 1) * power, levels) - power);
                least |= q == 0;
                most |= q == levels - 1;
            }
        }
        due("the least and the most are among them", least && most ? 1 : 0, 1);
    }

    // "byte 0: 156; 1: METHOD times 128, PAIRED times 64, number of the FRAME modulo 64; 2: POOL (what is IN USE)"
    private static void codeOfNumbers() {
        HeadsetBands x = toned(2, 64, 64);
        x.run(1);
        due("byte 0", x.code(0), 156);
        due("FRAME 0", x.code(1), 192);
        x.run(4 * 62);
        due("FRAME 62", x.code(1), 192 + 62);
        x.run(4);
        due("FRAME 63", x.code(1), 192 + 63);
        x.run(4);
        due("FRAME 64", x.code(1), 192);
        x.run(4);
        due("FRAME 65", x.code(1), 193);
        x.sets(2, 0);
        x.run(4);
        due("METHOD 0", x.code(1), 64 + 2);
        x.sets(3, 0);
        x.run(4);
        due("PAIRED 0", x.code(1), 3);
        x.sets(2, 1);
        x.run(4);
        due("METHOD 1", x.code(1), 128 + 4);
        x.sets(1, 128);
        x.run(4);
        due("POOL 128", x.code(2), 128);
        x.sets(1, 2);
        x.run(4);
        due("POOL 2", x.code(2), 2);
        x.sets(1, 77);
        due("of the FRAME coded last", x.code(2), 2);
    }

    // "the last byte filled with 0"
    private static void codeIsFilledWithZero() {
        int[] pools = {2, 3, 4, 5};
        int[] bytes = {14, 15, 15, 16};
        for (int i = 0; i < pools.length; i++) {
            HeadsetBands x = toned(2, 64, 64);
            x.sets(2, 0);
            x.sets(1, pools[i]);
            x.run(1);
            due("bytes of POOL " + pools[i], x.code(NONE), bytes[i]);
            due("the byte behind", x.code(bytes[i]), NONE);
            due("on paper", x.coded(pools[i], 0, 1, 0), bytes[i]);
            if (pools[i] % 2 == 1) {
                due("filled with 0", x.code(bytes[i] - 1) % 16, 0);
            }
        }
        // three bits each of -153, -144, -127, -128 by SCALE 8: 1, 1, 1, 1
        HeadsetBands y = toned(2, 64, 64);
        y.sets(2, 0);
        y.sets(1, 3);
        y.run(1);
        due("001 001 00", y.code(13), 0x24);
        due("1 001 0000", y.code(14), 0x90);
        HeadsetBands z = toned(2, 0, 0);
        z.run(1);
        due("no BITS: the head alone", z.code(NONE), 13);
        due("its last byte", z.code(12), 0);
        due("behind it", z.code(13), NONE);
    }

    // "5 .. 12: SCALES, two in a byte, the first higher, CHANNEL 0 first"
    private static void codeOfScalesAndTwins() {
        HeadsetBands x = toned(2, 64, 1000);
        x.tone(0, 40, 1234, 0);
        x.run(13);
        int twins = 0;
        for (int b = 0; b < 8; b++) {
            due("SCALES of byte " + (5 + b), x.code(5 + b),
                16 * x.dealt(b / 4, b * 2 % 8, 0) + x.dealt(b / 4, b * 2 % 8 + 1, 0));
            twins |= x.dealt(0, b, 3) << b;
        }
        due("TWINNED BANDS as bits", x.code(4), twins);
        due("BAND 0 is bit 0", small().code(4), 127);
    }

    // "CHECK: c is 15; of each bit (the highest first) of bytes 1, 2, 4, 5, .."
    private static void checkOfAllBytesButTwo() {
        for (int pool : new int[] {2, 3, 40, 128}) {
            HeadsetBands x = new HeadsetBands();
            x.sets(1, pool);
            x.run(5);
            int c = 15;
            for (int i = 1; i < x.code(NONE); i++) {
                for (int bit = 7; bit >= 0 && i != 3; bit--) {
                    boolean high = c >= 128;
                    boolean one = (x.code(i) >> bit) % 2 == 1;
                    c = c * 2 % 256;
                    c = high != one ? c ^ 29 : c;
                }
            }
            due("CHECK of POOL " + pool, x.code(3), c);
        }
    }
}
