/** Terms II from the player on, sentence by sentence: its clock, its trimming, what is heard and what is made up. */
public final class PlayerEdgesTest {
    private static final int NONE = Checks.NONE;
    private static final int MIN = Checks.MIN;
    private static final Checks CHECKS = new Checks();

    public static void main(String[] args) {
        waitsForCenter();
        centerForTheFirstTime();
        centerToldLess();
        phaseOfFourThousand();
        driftAtItsEdges();
        levelOfTheNextAndThoseBehind();
        trimBehindEachEighth();
        trimDownwards();
        holdAndTrimAtLeast();
        holdAndTrimAtMost();
        heardByCode();
        heardIsTheNearest();
        heardBehindMadeUp();
        heardByWhatTheCodeTells();
        heardByLoudAsItIs();
        bitsBehindTheEndAreZero();
        hearerTakesWhatCameOver();
        samplesKept();
        spectrumOfTheLast();
        lagOfSixteenToOneHundredTwenty();
        leastOfLikeLags();
        plainOnesBehindThoseKept();
        fadeToZero();
        fadeAnewBehindCode();
        channelsByThemselves();
        playerBeyondTheLastFrame();
        CHECKS.end();
    }

    private static void due(String what, long got, long want) {
        CHECKS.due(what, got, want);
    }

    private static HeadsetBands small() {
        HeadsetBands x = new HeadsetBands();
        x.tone(0, 2, 64, 0);
        x.tone(1, 2, 64, 0);
        return x;
    }

    private static void loudSound(HeadsetBands x) {
        x.tone(0, 13, 2000, 500);
        x.tone(1, 29, 1700, 300);
        x.sets(8, 80);
    }

    // "The player waits till LEVEL is CENTER or more for the first time; from that SLOT on: PHASE .."
    private static void waitsForCenter() {
        for (int center = 1; center <= 6; center++) {
            HeadsetBands x = small();
            x.sets(7, center);
            int first = 4 * (center - 1);
            if (first > 0) {
                x.run(first);
            }
            due("LEVEL just below CENTER " + center, x.count(6), center - 1);
            due("not begun", x.count(8), 0);
            due("PHASE waits", x.count(9), 0);
            x.run(1);
            due("LEVEL is CENTER " + center, x.count(6), center);
            due("begun", x.count(8), 1);
            due("PHASE from that SLOT on", x.count(9), 1000);
            due("none PLAYED yet", x.count(7), 0);
            due("three SLOTS more", x.run(2), 0);
            due("the first FRAME", x.run(1), 1);
            due("at SLOT", x.played(0, 6), first + 3);
        }
    }

    private static void centerForTheFirstTime() {
        HeadsetBands x = small();
        x.run(8);
        x.burst(99);
        x.sets(7, 6);
        x.run(40);
        due("LEVEL is below CENTER", x.count(6), 0);
        due("begun all the same", x.count(8), 1);
        due("it goes on playing", x.count(7) >= 10 ? 1 : 0, 1);
        x.restart();
        due("restart(): not begun", x.count(8), 0);
        x.run(20);
        due("CENTER 6 is waited for", x.count(8), 0);
        x.run(1);
        due("till LEVEL is 6", x.count(8), 1);
    }

    private static void centerToldLess() {
        HeadsetBands x = small();
        x.sets(7, 5);
        x.run(14);
        due("LEVEL 4 of 5", x.count(6) * 10 + x.count(8), 40);
        x.sets(7, 4);
        due("not yet", x.count(8), 0);
        x.run(1);
        due("at the next SLOT", x.count(8), 1);
        due("PHASE", x.count(9), 1000);
    }

    // "as long as it is 4,000 or more, it is less by that, and the next FRAME is PLAYED"
    private static void phaseOfFourThousand() {
        int[][] drifts = {{-1, 4, 0, 3996}, {-1, 5, 1, 995}, {0, 3, 0, 3000}, {0, 4, 1, 0}, {1, 3, 0, 3003}, {1, 4, 1, 4},
            {-50, 4, 0, 3800}, {-50, 5, 1, 750}, {50, 3, 0, 3150}, {50, 4, 1, 200}, {25, 4, 1, 100}};
        for (int[] d : drifts) {
            HeadsetBands x = small();
            x.sets(7, 1);
            x.sets(6, d[0]);
            due("PLAYED by DRIFT " + d[0], x.run(d[1]), d[2]);
            due("PHASE by DRIFT " + d[0], x.count(9), d[3]);
            due("the next FRAME", x.count(7), d[2]);
        }
    }

    private static void driftAtItsEdges() {
        for (int drift : new int[] {-50, -49, -1, 0, 1, 49, 50}) {
            HeadsetBands x = small();
            x.sets(7, 1);
            x.sets(6, drift);
            for (int slots = 1; slots < 29; slots++) {
                x.run(1);
                due("FRAMES by DRIFT " + drift, x.count(7), slots * (1000 + drift) / 4000);
                due("PHASE by DRIFT " + drift, x.count(9), slots * (1000 + drift) % 4000);
                due("TRIM is 0 till the eighth", x.count(10), 0);
            }
        }
    }

    // "LEVEL: PACKETS that have ARRIVED of the next FRAME and those behind it"
    private static void levelOfTheNextAndThoseBehind() {
        HeadsetBands x = small();
        x.sets(7, 3);
        x.run(9);
        due("three", x.count(6), 3);
        x.run(3);
        due("PLAYED at SLOT 11: two", x.count(6), 2);
        due("LEVEL ahead of it", x.played(0, 2), 3);
        due("FILL", x.count(12), 3);
        x.run(1);
        due("one ARRIVED", x.count(6), 3);
        // PACKET 4 is GIVEN UP ahead of its FRAME being PLAYED, 5 ARRIVES at the same SLOT
        HeadsetBands y = small();
        y.sets(4, 4);
        y.run(16);
        y.burst(4);
        y.run(4);
        due("LEVEL 0", y.count(6), 0);
        y.run(1);
        due("4 is GIVEN UP, 5 ARRIVES", y.packet(4, 0) * 10 + y.packet(5, 0), 32);
        due("4 is the next", y.count(7), 4);
        due("5 counts, though it is behind that", y.count(6), 1);
        y.run(3);
        due("4 is MADE UP", y.packet(4, 2), 2);
        due("LEVEL ahead of it", y.played(0, 2), 1);
        due("LEVEL stays", y.count(6), 1);
    }

    /** The TRIM due by the last eight FRAMES PLAYED and HOLD ahead of them; {HOLD, TRIM}. */
    private static int[] trimmed(HeadsetBands x, int hold) {
        int e = -8 * x.count(27);
        for (int ago = 0; ago < 8; ago++) {
            e += x.played(ago, 2);
        }
        int held = Math.max(-1600, Math.min(1600, hold + e));
        return new int[] {held, Math.max(-100, Math.min(100, Math.floorDiv(4 * e + held, 8)))};
    }

    /** Runs to just behind the eighth FRAME from now. */
    private static void eightMore(HeadsetBands x) {
        int rate = 1000 + x.count(26) + x.count(10);
        x.run((8 * 4000 - x.count(9) + rate - 1) / rate);
    }

    // "Behind each eighth FRAME PLAYED: e is FILL less 8 CENTER; .. FILL is 0"
    private static void trimBehindEachEighth() {
        int[][] centers = {{1, 8, 5}, {2, 0, 0}, {3, -8, -5}, {6, -32, -20}};
        for (int[] c : centers) {
            HeadsetBands x = small();
            x.run(8);
            x.sets(7, c[0]);
            x.run(24);
            due("seven PLAYED", x.count(7), 7);
            due("FILL of seven", x.count(12), 14);
            due("TRIM of seven", x.count(10), 0);
            due("HOLD of seven", x.count(11), 0);
            x.run(4);
            due("eight PLAYED", x.count(7), 8);
            due("FILL behind the eighth", x.count(12), 0);
            due("HOLD by CENTER " + c[0], x.count(11), c[1]);
            due("TRIM by CENTER " + c[0], x.count(10), c[2]);
            due("TRIM of the eighth, ahead of what is changed", x.played(0, 3), 0);
            due("PHASE is not trimmed yet", x.count(9), 0);
            x.run(1);
            due("PHASE is trimmed", x.count(9), 1000 + c[2]);
            x.run(5);
            due("nine PLAYED", x.count(7), 9);
            due("TRIM of the ninth", x.played(0, 3), c[2]);
            due("FILL of the ninth", x.count(12), x.played(0, 2));
            due("HOLD stays", x.count(11), c[1]);
        }
    }

    // "TRIM is (4 e and HOLD) by 8": downwards
    private static void trimDownwards() {
        HeadsetBands x = small();
        x.sets(7, 6);
        x.run(21);
        x.sets(5, 100);
        x.run(2);
        for (int i = 0; i < 8; i++) {
            x.run(i == 0 ? 1 : 4);
            due("LEVEL ahead of FRAME " + i, x.played(0, 2), Math.max(0, 6 - i));
        }
        due("e is 21 less 48", x.count(11), -27);
        due("-135 by 8", x.count(10), -17);
    }

    // "HOLD is more by e, -1,600 .. 1,600, the nearest"; "-100 .. 100, the nearest"
    private static void holdAndTrimAtLeast() {
        HeadsetBands x = small();
        x.sets(7, 6);
        x.run(21);
        x.sets(5, 100);
        eightMore(x);
        int hold = -27;
        for (int round = 1; round < 36; round++) {
            eightMore(x);
            due("eight more", x.count(7), 8 * (round + 1));
            hold = Math.max(-1600, hold - 48);
            due("HOLD of round " + round, x.count(11), hold);
            due("TRIM of round " + round, x.count(10), Math.max(-100, Math.floorDiv(-192 + hold, 8)));
        }
        due("the least HOLD", x.count(11), -1600);
        due("the least TRIM", x.count(10), -100);
        x.sets(7, 1);
        eightMore(x);
        due("HOLD stays at the least", x.count(11), -1600);
        x.sets(5, 0);
        eightMore(x);
        int[] due = trimmed(x, -1600);
        due("HOLD is more again", due[0] > -1600 ? 1 : 0, 1);
        due("by e from the least", x.count(11), due[0]);
        due("TRIM", x.count(10), due[1]);
    }

    private static void holdAndTrimAtMost() {
        HeadsetBands x = small();
        x.sets(7, 1);
        x.sets(5, 100);
        Story.pass(x, 1600);
        x.sets(5, 0);
        x.run(32);
        due("eight PLAYED", x.count(7), 8);
        due("LEVELS 2 .. 9 less 8", x.count(11), 36);
        due("180 by 8", x.count(10), 22);
        boolean cut = false;
        int hold = 36;
        for (int round = 1; round < 22; round++) {
            eightMore(x);
            int[] due = trimmed(x, hold);
            due("eight more", x.count(7), 8 * (round + 1));
            due("HOLD of round " + round, x.count(11), due[0]);
            due("TRIM of round " + round, x.count(10), due[1]);
            cut |= due[0] == 1600 && hold + 88 > 1600;
            hold = due[0];
        }
        due("cut at the most", cut ? 1 : 0, 1);
        due("the most HOLD", x.count(11), 1600);
        due("the most TRIM", x.count(10), 100);
    }

    private static int nearest(int v) {
        return Math.max(-2048, Math.min(2047, v));
    }

    /** What the hearer has of a FRAME, twins back, told by the coder behind it was coded: [CHANNEL][BLOCK][BAND]. */
    private static int[][][] bandsOf(HeadsetBands x) {
        int[][][] all = new int[2][4][8];
        for (int b = 0; b < 8; b++) {
            boolean twin = x.dealt(0, b, 3) == 1;
            for (int k = 0; k < 4; k++) {
                int l = x.band(0, b, k, 3);
                int r = x.band(1, b, k, 3);
                all[0][k][b] = twin ? l + Math.floorDiv(r + 1, 2) : l;
                all[1][k][b] = twin ? all[0][k][b] - r : r;
            }
        }
        return all;
    }

    private static int[] joined(Nodes nodes, int[][] blocks) {
        int[] samples = new int[32];
        for (int k = 0; k < 4; k++) {
            int[] eight = nodes.block(blocks[k]);
            for (int i = 0; i < 8; i++) {
                samples[8 * k + i] = nearest(eight[i]);
            }
        }
        return samples;
    }

    /** All that is heard up to a SLOT, sample by sample; how many FRAMES were MADE UP, and how many blended. */
    private static int[] heardAsDue(Story story, int slots) {
        Nodes[] nodes = {new Nodes(), new Nodes()};
        int made = 0;
        int blended = 0;
        for (int slot = 0; slot < slots; slot++) {
            HeadsetBands before = story.at(slot);
            HeadsetBands after = story.at(slot + 1);
            int number = before.count(7);
            if (after.count(7) == number) {
                continue;
            }
            boolean byCode = after.played(0, 1) == 1;
            int[][][] bands = byCode ? bandsOf(story.at(4 * number + 1)) : null;
            boolean blend = before.count(15) > 0;
            made += byCode ? 0 : 1;
            blended += byCode && blend ? 1 : 0;
            for (int c = 0; c < 2; c++) {
                int[] samples = byCode ? joined(nodes[c], bands[c]) : null;
                for (int i = 0; i < 32; i++) {
                    int would = i < 8 || !byCode ? before.madeUp(c, 2 + i) : 0;
                    int due = !byCode ? would : samples[i];
                    due = byCode && blend && i < 8 ? Math.floorDiv((8 - i) * would + i * due, 8) : due;
                    due("FRAME " + number + ", CHANNEL " + c + ", SAMPLE " + i, after.heard(c, 31 - i), due);
                }
            }
        }
        return new int[] {made, blended};
    }

    // "Heard by CODE: QUANTS back, TWINNED ones back, JOINED"
    private static void heardByCode() {
        int[] quiet = heardAsDue(new Story().when(0, x -> x.sets(7, 1)), 40);
        due("none MADE UP", quiet[0], 0);
        Story twins = new Story().when(0, x -> {
            x.tone(0, 37, 501, 0);
            x.tone(1, 37, 640, 20);
            x.sets(1, 90);
            x.sets(8, 80);
        });
        due("none MADE UP, twins", heardAsDue(twins, 40)[0], 0);
        int side = 0;
        HeadsetBands x = twins.at(5);
        for (int b = 0; b < 7; b++) {
            for (int k = 0; k < 4; k++) {
                int r = x.band(1, b, k, 3);
                side += x.dealt(0, b, 3) == 1 && r < 0 && r % 2 == 0 ? 1 : 0;
            }
        }
        due("SIDES below 0 and even are among them", side > 0 ? 1 : 0, 1);
    }

    // "-2,048 .. 2,047, the nearest"
    private static void heardIsTheNearest() {
        Story story = new Story().when(0, x -> {
            x.tone(0, 2, 2000, 500);
            x.tone(1, 3, 2000, 500);
            x.sets(1, 12);
            x.sets(7, 1);
        });
        heardAsDue(story, 60);
        boolean least = false;
        boolean most = false;
        for (int slot = 4; slot < 60; slot += 4) {
            HeadsetBands x = story.at(slot);
            for (int i = 0; i < 64; i++) {
                int v = x.heard(i / 32, i % 32);
                least |= v == -2048;
                most |= v == 2047;
            }
        }
        due("the least and the most are heard", least && most ? 1 : 0, 1);
    }

    // "If the FRAME ahead was MADE UP, of the first eight SAMPLES .."; "The hearer's NODES stay as they are"
    private static void heardBehindMadeUp() {
        Story story = new Story().when(0, PlayerEdgesTest::loudSound).when(20, x -> x.burst(9)).when(48, x -> x.burst(30));
        int[] many = heardAsDue(story, 120);
        due("some are MADE UP", many[0] > 3 ? 1 : 0, 1);
        due("twice behind them by CODE", many[1], 2);
    }

    // "POOL, METHOD as told there": what sets() told behind the coding does not matter
    private static void heardByWhatTheCodeTells() {
        Checks.Calls heard = x -> x.run(1);
        Checks.Calls start = x -> {
            loudSound(x);
            x.run(7);
        };
        int[] plain = samplesOf(Checks.inOrder(start, heard));
        int[][] told = {{1, 2}, {1, 128}, {2, 0}, {3, 0}, {8, 10}, {9, 1}, {0, 9}, {4, 16}};
        for (int[] t : told) {
            int[] other = samplesOf(Checks.inOrder(start, x -> x.sets(t[0], t[1]), heard));
            for (int i = 0; i < 64; i++) {
                due("heard by sets(" + t[0] + ", " + t[1] + ")", other[i], plain[i]);
            }
        }
    }

    private static int[] samplesOf(Checks.Calls calls) {
        HeadsetBands x = Checks.after(calls);
        due("one FRAME by CODE", x.count(13), 1);
        int[] samples = new int[64];
        for (int i = 0; i < 64; i++) {
            samples[i] = x.heard(i / 32, i % 32);
        }
        return samples;
    }

    /** BAND 0 of the left alone has bits, two each, of POOL 3: one byte of QUANTS. */
    private static void oneBand(HeadsetBands x) {
        x.tone(0, 37, 150, 0);
        x.tone(1, 2, 0, 0);
        x.sets(3, 0);
        x.sets(1, 3);
        x.sets(7, 1);
        for (int b = 0; b < 8; b++) {
            x.loud(b, 8);
        }
        x.run(1);
        int scale = x.dealt(0, 0, 0);
        x.loud(0, scale - 4);
        x.restart();
        x.run(1);
        due("NEED 2", x.dealt(0, 0, 1), 2);
        due("BITS 2", x.share(NONE), 2);
        due("14 bytes", x.code(NONE), 14);
    }

    /** FRAME 0 heard as that many bits each from the byte of QUANTS with zeros behind it. */
    private static void heardBy(HeadsetBands x, int bits) {
        int scale = x.dealt(0, 0, 0);
        int row = x.code(13) << 8;
        int[][] blocks = new int[4][8];
        int levels = (1 << bits) - 1;
        for (int k = 0; k < 4; k++) {
            int q = (row >> (16 - bits * (k + 1))) & levels;
            blocks[k][0] = bits == 0 ? 0 : Math.floorDiv((2 * q + 1) << scale, levels) - (1 << scale);
        }
        int[] samples = joined(new Nodes(), blocks);
        due("the first FRAME", x.run(3), 1);
        for (int i = 0; i < 32; i++) {
            due("heard by " + bits + " bits, SAMPLE " + i, x.heard(0, 31 - i), samples[i]);
            due("nothing on the right", x.heard(1, 31 - i), 0);
        }
    }

    // "LOUD as it is by then"
    private static void heardByLoudAsItIs() {
        HeadsetBands same = Checks.after(PlayerEdgesTest::oneBand);
        heardBy(same, 2);
        HeadsetBands none = Checks.after(PlayerEdgesTest::oneBand);
        none.loud(0, 8);
        due("NEED 0 or below", none.dealt(0, 0, 1) <= 0 ? 1 : 0, 1);
        heardBy(none, 0);
    }

    // "bits behind its end are 0"
    private static void bitsBehindTheEndAreZero() {
        HeadsetBands x = Checks.after(PlayerEdgesTest::oneBand);
        due("some bits are 1", x.code(13) > 0 ? 1 : 0, 1);
        x.loud(0, x.count(40) - 2);
        due("NEED 3", x.dealt(0, 0, 1), 3);
        heardBy(x, 3);
    }

    /** The n-th DRAW (1 on) by a SEED. */
    private static int drawn(long seed, int n) {
        long s = seed;
        for (int i = 0; i < n; i++) {
            s = (1103 * s + 12345) % 1000003;
        }
        return (int) (s / 16);
    }

    /** 45 bytes in PIECES of 30 and 15, each DAMAGED in one bit, told by the SEED. */
    private static void coded45(HeadsetBands x, int pool) {
        x.tone(0, 13, 2000, 0);
        x.tone(1, 29, 2000, 0);
        x.sets(1, pool);
        x.sets(7, 1);
        x.sets(10, 1000);
    }

    /** A bit of the first PIECE and the one of the second that makes CHECK right again; a SEED that damages both. */
    private static int[] unseenBits(int pool, int bit) {
        HeadsetBands x = new HeadsetBands();
        coded45(x, pool);
        x.run(1);
        int bytes = x.code(NONE);
        int other = 240;
        for (int tries = 0; tries < Checks.TRIES && x.damaged(bit, other) == 1; tries++) {
            other++;
        }
        int seed = 0;
        while (seed < 999999
                && (drawn(seed, 3) % 240 != bit || drawn(seed, 6) % (8 * bytes - 240) != other - 240)) {
            seed++;
        }
        return new int[] {other, seed};
    }

    // IN FULL: METHOD from bit 7 of byte 1, POOL from byte 2 (0 .. 255), TWINNED BANDS from all eight bits of byte 4
    private static void hearerTakesWhatCameOver() {
        unseen("METHOD", 64, 8, 64, 0, 0);
        unseen("PAIRED matters not", 64, 9, 64, 1, 0);
        unseen("the number matters not", 64, 10, 64, 1, 0);
        // NEEDS by loudness are less than 128 in all, so that 192 is as good as 128
        unseen("POOL 192", 64, 16, 128, 1, 0);
        unseen("POOL 0", 64, 17, 0, 1, 0);
        unseen("POOL 1", 65, 17, 0, 1, 0);
        unseen("POOL 2", 66, 17, 2, 1, 0);
        unseen("BAND 7 TWINNED", 64, 32, 64, 1, 128);
        unseen("BAND 6 the other way", 64, 33, 64, 1, 64);
        unseen("BAND 0 the other way", 64, 39, 64, 1, 1);
    }

    private static void unseen(String what, int pool, int bit, int heardPool, int heardMethod, int turned) {
        int[] found = unseenBits(pool, bit);
        HeadsetBands x = new HeadsetBands();
        coded45(x, pool);
        x.sets(0, found[1]);
        x.run(2);
        due(what + ": ARRIVED", x.packet(0, 3), 1);
        due(what + ": DAMAGED", x.count(33), 2);
        StringBuilder code = new StringBuilder();
        int bytes = x.code(NONE);
        for (int i = 0; i < bytes; i++) {
            code.append(Integer.toBinaryString(256 + x.code(i)).substring(1));
        }
        for (int i : new int[] {bit, found[0]}) {
            code.setCharAt(i, code.charAt(i) == '0' ? '1' : '0');
        }
        code.append("0".repeat(4 * 128));
        int[][][] bands = new int[2][4][8];
        int at = 8 * 13;
        for (int i = 0; i < 64; i++) {
            int c = i / 8 % 2;
            int b = i % 8;
            int bits = heardPool == 0 ? 0 : x.dealtBy(heardPool, heardMethod, c, b);
            int scale = x.dealt(c, b, 0);
            long q = bits == 0 ? 0 : Integer.parseInt(code.substring(at, at + bits), 2);
            at += bits;
            bands[c][i / 16][b] = bits == 0 ? 0
                : (int) (Math.floorDiv((2 * q + 1) << scale, (1L << bits) - 1) - (1L << scale));
        }
        int twins = x.code(4) ^ turned;
        for (int i = 0; i < 32; i++) {
            if (((twins >> (i % 8)) & 1) == 1) {
                int side = bands[1][i / 8][i % 8];
                bands[0][i / 8][i % 8] += Math.floorDiv(side + 1, 2);
                bands[1][i / 8][i % 8] = bands[0][i / 8][i % 8] - side;
            }
        }
        due(what + ": one FRAME", x.run(3), 1);
        for (int c = 0; c < 2; c++) {
            int[] samples = joined(new Nodes(), bands[c]);
            for (int i = 0; i < 32; i++) {
                due(what + ": CHANNEL " + c + ", SAMPLE " + i, x.heard(c, 31 - i), samples[i]);
            }
        }
    }

    // "Of HEARD SAMPLES the last 192 of each CHANNEL are kept (0 ahead of any)"
    private static void samplesKept() {
        Story story = new Story().when(0, x -> {
            loudSound(x);
            x.sets(7, 1);
        });
        HeadsetBands none = story.at(3);
        due("0 ahead of any", none.heard(0, 0), 0);
        due("0 ahead of any, the oldest", none.heard(1, 191), 0);
        int[] first = new int[32];
        HeadsetBands one = story.at(4);
        for (int i = 0; i < 32; i++) {
            first[i] = one.heard(0, i);
        }
        due("ahead of the first SAMPLE", one.heard(0, 32), 0);
        due("the first SAMPLE is not 0", first[31] != 0 ? 1 : 0, 1);
        for (int frames = 2; frames <= 6; frames++) {
            HeadsetBands x = story.at(4 * frames);
            due("PLAYED", x.count(7), frames);
            for (int i = 0; i < 32; i++) {
                due("kept behind " + frames + " FRAMES", x.heard(0, 32 * (frames - 1) + i), first[i]);
            }
            due("ahead of all", frames < 6 ? x.heard(0, 32 * frames) : 0, 0);
        }
        HeadsetBands six = story.at(24);
        due("the oldest kept is the first", six.heard(0, 191), first[31]);
        due("none behind it", six.heard(0, 192), MIN);
        HeadsetBands seven = story.at(28);
        HeadsetBands two = story.at(8);
        due("kept no more", seven.heard(0, 191), two.heard(0, 31));
    }

    // Promise 23: the last 32 SAMPLES HEARD, SPLIT by NODES of their own (MEMORIES 0 at first)
    private static void spectrumOfTheLast() {
        Story story = new Story().when(0, PlayerEdgesTest::loudSound).when(20, x -> x.burst(9));
        for (int slots : new int[] {7, 8, 12, 30, 60}) {
            for (int c = 0; c < 2; c++) {
                HeadsetBands x = story.at(slots);
                Nodes nodes = new Nodes();
                int[] sums = new int[8];
                for (int k = 0; k < 4; k++) {
                    int[] samples = new int[8];
                    for (int i = 0; i < 8; i++) {
                        samples[i] = x.heard(c, 31 - 8 * k - i);
                    }
                    int[] bands = nodes.bands(samples);
                    for (int b = 0; b < 8; b++) {
                        sums[b] += Math.abs(bands[b]);
                    }
                }
                for (int b = 0; b < 8; b++) {
                    due("spectrum(" + c + ", " + b + ") behind " + slots, x.spectrum(c, b), sums[b]);
                    due("asked twice", x.spectrum(c, b), sums[b]);
                }
            }
        }
    }

    private static int sumOfLag(int[] row, int lag) {
        int sum = 0;
        for (int i = 0; i < 32; i++) {
            sum += Math.abs(row[i] - row[i + lag]);
        }
        return sum;
    }

    /** LAG, its sum and all SAMPLES that would be MADE UP, by the SAMPLES that are kept; {LAG, sums just outside}. */
    private static int[] madeUpAsDue(String what, HeadsetBands x, int channel) {
        int[] row = new int[192];
        for (int i = 0; i < 192; i++) {
            row[i] = x.heard(channel, i);
        }
        int lag = 16;
        for (int l = 17; l <= 120; l++) {
            lag = sumOfLag(row, l) < sumOfLag(row, lag) ? l : lag;
        }
        due(what + ": LAG", x.madeUp(channel, 0), lag);
        due(what + ": its sum", x.madeUp(channel, 1), sumOfLag(row, lag));
        int fade = Math.max(0, 8 - x.count(15));
        int[] plain = new int[32];
        for (int i = 0; i < 32; i++) {
            plain[i] = i < lag ? row[lag - 1 - i] : plain[i - lag];
            due(what + ": SAMPLE " + i, x.madeUp(channel, 2 + i), Math.floorDiv(plain[i] * fade, 8));
        }
        return new int[] {lag, sumOfLag(row, lag), sumOfLag(row, 15), sumOfLag(row, 121)};
    }

    private static Story exact(int period) {
        return new Story().when(0, x -> {
            x.tone(0, period, 1500, 0);
            x.tone(1, period, 1500, 0);
            x.sets(1, 128);
            x.sets(2, 0);
            x.sets(8, 80);
        });
    }

    // "LAG: of 16 .. 120 the one with the least sum of differences"
    private static void lagOfSixteenToOneHundredTwenty() {
        int[] fifteen = madeUpAsDue("period 15", exact(15).at(100), 0);
        due("15 would be less", fifteen[2] < fifteen[1] || fifteen[0] % 15 == 0 ? 1 : 0, 1);
        due("a LAG of 16 or more", fifteen[0] >= 16 ? 1 : 0, 1);
        due("period 16", madeUpAsDue("period 16", exact(16).at(100), 0)[0], 16);
        due("period 17", madeUpAsDue("period 17", exact(17).at(100), 0)[0] % 17, 0);
        due("period 119", madeUpAsDue("period 119", exact(119).at(100), 0)[0], 119);
        due("period 120", madeUpAsDue("period 120", exact(120).at(100), 0)[0], 120);
        int[] beyond = madeUpAsDue("period 121", exact(121).at(100), 0);
        due("121 would be less", beyond[3] < beyond[1] ? 1 : 0, 1);
        due("but 120 is the most", beyond[0] <= 120 ? 1 : 0, 1);
        HeadsetBands early = exact(40).at(12);
        due("few FRAMES are PLAYED", early.count(7), 2);
        madeUpAsDue("0 ahead of any", early, 0);
    }

    // "the least of like ones"
    private static void leastOfLikeLags() {
        int[] of32 = madeUpAsDue("period 32", exact(32).at(100), 0);
        due("32, not 64 or 96", of32[0], 32);
        due("nothing off", of32[1], 0);
        due("16, not 32", madeUpAsDue("period 16", exact(16).at(100), 1)[0], 16);
        due("16 of period 8", madeUpAsDue("period 8", exact(8).at(100), 1)[0], 16);
        due("16 of silence", madeUpAsDue("silence", new HeadsetBands(), 1)[0], 16);
    }

    // "PLAIN SAMPLE i is what is LAG ahead of it in the row of SAMPLES kept with PLAIN ones behind them"
    private static void plainOnesBehindThoseKept() {
        for (int period : new int[] {16, 17, 31, 32, 33}) {
            Story story = exact(period).when(100, x -> x.burst(99));
            HeadsetBands x = story.at(100);
            madeUpAsDue("period " + period + ", FADE 8", x, 0);
            for (int made = 1; made < 4; made++) {
                int slots = 100;
                for (int tries = 0; tries < Checks.TRIES && story.at(slots).count(15) < made; tries++) {
                    slots++;
                }
                madeUpAsDue("period " + period + " behind " + made, story.at(slots), 0);
            }
        }
    }

    // "FADE is 8 less how many FRAMES one behind the other were MADE UP just ahead, 0 at least"
    private static void fadeToZero() {
        Story story = exact(16).when(60, x -> x.burst(99));
        int slots = 60;
        for (int made = 1; made <= 11; made++) {
            for (int tries = 0; tries < Checks.TRIES && story.at(slots).count(14) < made; tries++) {
                slots++;
            }
            HeadsetBands x = story.at(slots);
            due("FADE of the one MADE UP behind " + (made - 1), x.played(0, 5), Math.max(0, 9 - made));
            due("MADE UP one behind the other", x.count(15), made);
            due("the most so far", x.count(16), made);
            madeUpAsDue("behind " + made, x, 1);
            if (made >= 9) {
                due("FADE 0 is silence", x.heard(0, 0), 0);
                due("FADE 0 is silence", x.heard(0, 31), 0);
            }
        }
    }

    private static void fadeAnewBehindCode() {
        Story story = exact(40).when(40, x -> x.burst(9)).when(80, x -> x.burst(9));
        HeadsetBands x = story.at(120);
        int made = 0;
        int most = 0;
        for (int ago = 15; ago >= 0; ago--) {
            boolean byCode = x.played(ago, 1) == 1;
            due("FADE", x.played(ago, 5), byCode ? 8 : 8 - made);
            made = byCode ? 0 : made + 1;
            most = Math.max(most, made);
        }
        due("some in a row", most > 0 ? 1 : 0, 1);
        due("none just now", x.count(15), 0);
        due("the most so far", x.count(16) >= most ? 1 : 0, 1);
    }

    // "MADE UP (each CHANNEL by itself)"
    private static void channelsByThemselves() {
        Story story = new Story().when(0, x -> {
            x.tone(0, 32, 1500, 0);
            x.tone(1, 2, 0, 0);
            x.sets(1, 128);
            x.sets(2, 0);
            x.sets(3, 0);
            x.sets(8, 80);
        });
        HeadsetBands x = story.at(100);
        due("LAG of CHANNEL 0", madeUpAsDue("CHANNEL 0", x, 0)[0], 32);
        HeadsetBands y = story.at(100);
        due("LAG of CHANNEL 1", madeUpAsDue("CHANNEL 1", y, 1)[0], 16);
    }

    // IN FULL: "The next FRAME to be PLAYED may be beyond 2,499"
    private static void playerBeyondTheLastFrame() {
        HeadsetBands x = small();
        x.sets(7, 1);
        Story.pass(x, 8800);
        x.sets(5, 100);
        x.sets(6, 50);
        Story.pass(x, 1200);
        due("all SLOTS were", x.count(0), 10000);
        due("all FRAMES are coded", x.count(1), 2500);
        due("the next is beyond", x.count(7) > 2501 ? 1 : 0, 1);
        due("its number", x.played(0, 0), x.count(7) - 1);
        due("MADE UP", x.played(0, 1), 2);
        due("the last that has a PACKET", x.packet(2499, 2), 2);
        due("no PACKET beyond", x.packet(2500, 2), NONE);
        due("SLOT less 4 times the number is below 0", x.late(0) < 0 ? 1 : 0, 1);
        int off = 0;
        for (int c = 0; c < 2; c++) {
            for (int i = 0; i < 32; i++) {
                off += Math.abs(x.heard(c, 31 - i) - x.source(c, 32 * x.played(0, 0) + i));
            }
        }
        due("differences from the SOURCE beyond", x.played(0, 4), off);
        due("no more SLOTS", x.run(1), NONE);
    }
}
