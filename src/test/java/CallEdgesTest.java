/** The promises one by one: what each call tells at the edges that its sentences name. */
public final class CallEdgesTest {
    private static final int NONE = Checks.NONE;
    private static final int MIN = Checks.MIN;
    private static final Checks CHECKS = new Checks();

    public static void main(String[] args) {
        newObject();
        toneOfOneChannel();
        setsAtOnce();
        loudOfOneBand();
        slotNineThousand();
        keepAtTheLastSlot();
        sourceAsItIs();
        frameCodedLast();
        needOfThatFrame();
        codeByByte();
        paperIsThatFrame();
        costOfOthers();
        leastIsNotAbove();
        leastOfAllPools();
        codedByOthers();
        worstOfLikeOnes();
        pairedOfBands();
        shareOfBoth();
        damagedBits();
        lineOfPackets();
        packetAllItsLife();
        packetsOfAllNumbers();
        playedSixteen();
        playedOffTheSource();
        lateOfOneAndMore();
        delaysOfSixteen();
        wouldOfTheLastSlots();
        wouldChangesNothing();
        countOfPlayer();
        countOfHeard();
        countOfLine();
        callFiveHundredTwelve();
        CHECKS.end();
    }

    private static void due(String what, long got, long want) {
        CHECKS.due(what, got, want);
    }

    private static void due(String what, boolean got, boolean want) {
        CHECKS.due(what, got, want);
    }

    /** Both channels -64, 64, ..: one PIECE a FRAME, 19 bytes the first, 14 each other one. */
    private static HeadsetBands small() {
        HeadsetBands x = new HeadsetBands();
        x.tone(0, 2, 64, 0);
        x.tone(1, 2, 64, 0);
        return x;
    }

    /** Loud noise, one PIECE a FRAME. */
    private static HeadsetBands broad() {
        HeadsetBands x = new HeadsetBands();
        x.tone(0, 13, 2000, 500);
        x.tone(1, 29, 2000, 500);
        x.sets(8, 80);
        return x;
    }

    // Promise 1
    private static void newObject() {
        HeadsetBands x = new HeadsetBands();
        int[] of40 = {-1000, -900, -800, -700, -600, -500, -400, -300, -200, -100, 0, 100};
        for (int i = 0; i < of40.length; i++) {
            due("PERIOD 40, HEIGHT 1,000", x.source(0, i), of40[i]);
            due("PERIOD 50, HEIGHT 1,000", x.source(1, i), -1000 + 80 * i);
        }
        due("PERIOD 40 anew", x.source(0, 40), -1000);
        due("PERIOD 50 anew", x.source(1, 50), -1000);
        due("SLOT 0 is to come", x.count(0), 0);
        x.run(1);
        due("FRAME 0 at SLOT 0", x.code(1), 192);
        HeadsetBands y = new HeadsetBands();
        HeadsetBands z = new HeadsetBands();
        y.sets(1, 100);
        y.loud(0, 8);
        y.tone(0, 3, 3, 3);
        y.run(50);
        due("objects are by themselves: POOL", z.count(21), 40);
        due("objects are by themselves: LOUD", z.count(40), 0);
        due("objects are by themselves: SOURCE", z.source(0, 0), -1000);
        due("objects are by themselves: SLOTS", z.count(0), 0);
    }

    // Promise 2
    private static void toneOfOneChannel() {
        HeadsetBands x = new HeadsetBands();
        due("tone(1, ..)", x.tone(1, 4, 8, 0), true);
        due("CHANNEL 1", x.source(1, 1), 0);
        due("CHANNEL 1", x.source(1, 2), 8);
        due("CHANNEL 0 stays", x.source(0, 1), -900);
        due("tone(0, ..)", x.tone(0, 4, 16, 0), true);
        due("CHANNEL 0", x.source(0, 2), 16);
        due("CHANNEL 1 stays", x.source(1, 2), 8);
        due("NOISE of CHANNEL 0 alone", x.tone(0, 4, 16, 1), true);
        due("NOISE of CHANNEL 0: SEED 1 modulo 3, less 1", x.source(0, 0), -16);
        x.sets(0, 2);
        due("NOISE of CHANNEL 0: SEED 2 modulo 3, less 1", x.source(0, 0), -15);
        due("no NOISE of CHANNEL 1", x.source(1, 0), -8);
    }

    // Promise 3
    private static void setsAtOnce() {
        HeadsetBands x = new HeadsetBands();
        int[] first = {1, 40, 1, 1, 8, 0, 0, 2, 30, 0, 0};
        int[] told = {7, 41, 0, 0, 9, 1, -1, 3, 31, 1, 1};
        for (int what = 0; what < 11; what++) {
            due("sets(" + what + ")", x.sets(what, told[what]), true);
            for (int other = 0; other < 11; other++) {
                due("told " + other, x.count(20 + other), other <= what ? told[other] : first[other]);
            }
        }
        due("the same once more", x.sets(4, 9), true);
    }

    // Promise 4
    private static void loudOfOneBand() {
        HeadsetBands x = new HeadsetBands();
        int[] first = {0, 0, 1, 2, 3, 4, 5, 6};
        for (int band = 0; band < 8; band++) {
            for (int v = -4; v <= 8; v++) {
                due("loud(" + band + ", " + v + ")", x.loud(band, v), true);
                due("LOUD", x.count(40 + band), v);
            }
            due("loud of 9", x.loud(band, 9), false);
            due("loud of -5", x.loud(band, -5), false);
            for (int other = 0; other < 8; other++) {
                due("LOUD of " + other, x.count(40 + other), other <= band ? 8 : first[other]);
            }
        }
        // for the coder: no NEED above 0 any more but where SCALE is 10 or more
        x.tone(0, 2, 64, 0);
        x.tone(1, 2, 64, 0);
        x.run(1);
        due("the coder goes by it", x.code(NONE), 13);
    }

    // Promise 6: "SLOT 9,999 is the last that comes"
    private static void slotNineThousand() {
        HeadsetBands x = small();
        Story.pass(x, 9600);
        x.keep(0);
        due("run(400) to the last SLOT", x.run(400), 100);
        due("SLOTS", x.count(0), 10000);
        for (int n : new int[] {1, 2, 400}) {
            due("run(" + n + ") beyond", x.run(n), NONE);
        }
        due("SLOTS still", x.count(0), 10000);
        x.again(0);
        x.run(1);
        due("run(400), one too many", x.run(400), NONE);
        due("nothing happens", x.count(0), 9601);
        due("run(399)", x.run(399), 100);
        due("SLOTS", x.count(0), 10000);
        x.again(0);
        x.run(399);
        due("run(2), one too many", x.run(2), NONE);
        due("nothing happens", x.count(0), 9999);
        due("SLOT 9,999 comes", x.run(1), 1);
        due("FRAME of the last SLOT", x.played(0, 6), 9999);
        due("the last FRAME coded", x.code(1) % 64, 2499 % 64);
        due("its PACKET", x.packet(2499, 3), 9996);
    }

    private static void keepAtTheLastSlot() {
        HeadsetBands x = small();
        Story.pass(x, 10000);
        due("keep() at the end", x.keep(1), true);
        due("restart()", x.restart(), 10000);
        due("run()", x.run(30), 6);
        due("again()", x.again(1), true);
        due("no more SLOTS", x.run(1), NONE);
        due("SLOTS", x.count(0), 10000);
        due("the last PACKET", x.packet(2499, 0), 2);
    }

    // Promise 10
    private static void sourceAsItIs() {
        HeadsetBands x = new HeadsetBands();
        x.run(50);
        due("SAMPLES are counted from 0", x.source(0, 1), -900);
        x.tone(0, 200, 2000, 0);
        due("told anew", x.source(0, 1), -1960);
        due("SAMPLE 0", x.source(0, 0), -2000);
        due("SAMPLE 99,999 of PERIOD 200", x.source(0, 99999), -1960);
        due("SAMPLE 99,998", x.source(0, 99998), -1920);
        x.tone(0, 2, 0, 500);
        x.sets(0, 999999);
        due("NOISE of SAMPLE 99,999", x.source(0, 99999), (7919L * 99999 + 999999) % 10007 % 1001 - 500);
        due("NOISE of SAMPLE 0", x.source(0, 0), 999999 % 10007 % 1001 - 500);
    }

    // Promise 11: "Of the FRAME coded last"
    private static void frameCodedLast() {
        HeadsetBands x = small();
        x.run(1);
        x.tone(0, 2, 0, 0);
        due("FRAME 0", x.band(0, 4, 0, 0), -153);
        x.run(3);
        due("FRAME 0 till SLOT 4", x.band(0, 4, 0, 0), -153);
        due("and its BITS", x.dealt(0, 4, 2), 2);
        x.run(1);
        due("FRAME 1 from SLOT 4 on", x.band(0, 4, 0, 0), 25);
        due("BLOCK 3 of it", x.band(0, 4, 3, 0), 0);
        x.keep(0);
        x.run(8);
        due("FRAME 3", x.band(0, 4, 0, 0), 0);
        x.again(0);
        due("FRAME 1 again", x.band(0, 4, 0, 0), 25);
        due("its CODE again", x.code(1), 193);
        x.would(20, 0);
        due("on paper nothing is coded", x.band(0, 4, 0, 0), 25);
    }

    // Promise 12: "NEED by LOUD as it is", of that FRAME
    private static void needOfThatFrame() {
        HeadsetBands x = small();
        x.sets(2, 0);
        x.run(1);
        x.loud(4, 8);
        due("METHOD 0: SCALE", x.dealt(0, 4, 1), 8);
        x.sets(2, 1);
        due("that FRAME was coded by METHOD 0", x.dealt(0, 4, 1), 8);
        x.run(4);
        due("METHOD 1: l is 0", x.dealt(0, 4, 1), 0);
        x.loud(4, 7);
        due("l is 1", x.dealt(0, 4, 1), 0);
        x.loud(4, 6);
        due("l is 2", x.dealt(0, 4, 1), 1);
        due("BITS as coded", x.dealt(0, 4, 2), 0);
        x.loud(7, 8);
        due("SCALE 0", x.dealt(1, 7, 1), 0);
        for (int c = 0; c < 2; c++) {
            due("TWINNED is told of both", x.dealt(c, 4, 3), 1);
            due("silence is not TWINNED", x.dealt(c, 0, 3), 0);
        }
    }

    // Promise 13
    private static void codeByByte() {
        HeadsetBands x = small();
        x.run(1);
        due("bytes", x.code(NONE), 19);
        due("the last one", x.code(18), 0x51);
        due("behind it", x.code(19), NONE);
        due("ahead of the first", x.code(-2), NONE);
        x.run(4);
        due("bytes of FRAME 1", x.code(NONE), 14);
        due("its last one", x.code(13), 0);
        due("behind it nothing of FRAME 0", x.code(14), NONE);
        for (int i = 0; i < 14; i++) {
            due("a byte", x.code(i) >= 0 && x.code(i) < 256, true);
        }
    }

    // Promises 14, 15, 18: LOUD as it is, SCALES as coded, BANDS as coded
    private static void paperIsThatFrame() {
        HeadsetBands x = broad();
        x.run(5);
        for (int c = 0; c < 2; c++) {
            for (int b = 0; b < 8; b++) {
                due("by its own POOL, METHOD", x.dealtBy(40, 1, c, b), x.dealt(c, b, 2));
            }
        }
        int sum = 0;
        int worst = 0;
        int most = -1;
        for (int column = 0; column < 16; column++) {
            int off = 0;
            for (int k = 0; k < 4; k++) {
                off += Math.abs(x.band(column / 8, column % 8, k, 1) - x.band(column / 8, column % 8, k, 3));
            }
            sum += off;
            worst = off > most ? column : worst;
            most = Math.max(most, off);
        }
        due("cost by its own", x.cost(40, 1), sum);
        due("worst by its own", x.worst(40, 1, 0), worst);
        due("how much there", x.worst(40, 1, 1), most);
        x.sets(1, 2);
        x.sets(2, 0);
        x.sets(3, 0);
        due("what is told now does not matter", x.cost(40, 1), sum);
        due("nor for worst", x.worst(40, 1, 1), most);
        // PAIRED 0: its SCALES are those of the right, not of the SIDE
        x.run(4);
        due("SCALES as coded", x.dealtBy(128, 0, 1, 4) <= x.dealt(1, 4, 0), true);
        due("none TWINNED", x.code(4), 0);
    }

    private static void costOfOthers() {
        HeadsetBands x = small();
        x.run(1);
        // POOL 2 by level: BAND 4 alone has two bits
        int others = 0;
        for (int b = 0; b < 8; b++) {
            for (int k = 0; k < 4; k++) {
                others += b == 4 ? 0 : Math.abs(x.band(0, b, k, 1)) + Math.abs(x.band(1, b, k, 1));
            }
        }
        due("POOL 2: all but BAND 4 is lost", x.cost(2, 0), others + 18 + 27 + 44 + 43);
        due("POOL 1", x.cost(1, 0), NONE);
        due("POOL 128", x.cost(128, 0) < x.cost(2, 0), true);
        due("POOL 129", x.cost(129, 0), NONE);
        due("by loudness NEEDS end at POOL 12", x.cost(128, 1), x.cost(12, 1));
        due("ahead of it", x.cost(11, 1) > x.cost(12, 1), true);
    }

    // Promise 16: "The least POOL 2 .. 128 by which cost() of a METHOD is not above a number"
    private static void leastIsNotAbove() {
        HeadsetBands x = small();
        x.run(1);
        int two = x.cost(2, 0);
        due("what POOL 2 costs", x.least(0, two), 2);
        due("one more", x.least(0, two + 1), 2);
        due("one less", x.least(0, two - 1) > 2, true);
        HeadsetBands y = broad();
        y.run(1);
        int all = y.cost(128, 0);
        due("what POOL 128 alone can", y.least(0, all), 128);
        due("one more", y.least(0, all + 1) <= 128, true);
        due("one less: none", y.least(0, all - 1), NONE);
        due("0 costs more than all", y.least(0, 0), NONE);
        HeadsetBands z = new HeadsetBands();
        z.tone(0, 2, 0, 0);
        z.tone(1, 2, 0, 0);
        z.run(1);
        due("silence costs 0", z.least(0, 0), 2);
        due("silence, -1", z.least(0, -1), NONE);
    }

    private static void leastOfAllPools() {
        int notFalling = 0;
        for (int method = 0; method < 2; method++) {
            HeadsetBands x = broad();
            x.tone(0, 7, 90, 4);
            x.run(1);
            int[] costs = new int[129];
            for (int pool = 2; pool <= 128; pool++) {
                costs[pool] = x.cost(pool, method);
                notFalling += pool > 2 && costs[pool] > costs[pool - 1] ? 1 : 0;
            }
            for (int pool = 2; pool <= 128; pool++) {
                int due = 2;
                while (costs[due] > costs[pool]) {
                    due++;
                }
                due("least by what POOL " + pool + " costs", x.least(method, costs[pool]), due);
            }
        }
        due("cost does not always fall", notFalling > 0, true);
    }

    // Promise 17: differences between BANDS as SPLIT and what the hearer would have of them, twins back
    private static void codedByOthers() {
        for (int paired = 0; paired < 2; paired++) {
            for (int pool : new int[] {2, 3, 40, 128}) {
                HeadsetBands x = broad();
                x.run(5);
                HeadsetBands y = broad();
                y.run(4);
                y.sets(1, pool);
                y.sets(2, 0);
                y.sets(3, paired);
                y.run(1);
                int sum = 0;
                int most = 0;
                for (int b = 0; b < 8; b++) {
                    boolean twin = y.dealt(0, b, 3) == 1;
                    for (int k = 0; k < 4; k++) {
                        int l = y.band(0, b, k, 3);
                        int r = y.band(1, b, k, 3);
                        int left = twin ? l + Math.floorDiv(r + 1, 2) : l;
                        int right = twin ? left - r : r;
                        int offLeft = Math.abs(left - y.band(0, b, k, 0));
                        int offRight = Math.abs(right - y.band(1, b, k, 0));
                        sum += offLeft + offRight;
                        most = Math.max(most, Math.max(offLeft, offRight));
                    }
                }
                String told = "coded(" + pool + ", 0, " + paired + ")";
                due(told + " bytes", x.coded(pool, 0, paired, 0), y.code(NONE));
                due(told + " twins", x.coded(pool, 0, paired, 1), y.code(4));
                due(told + " differences", x.coded(pool, 0, paired, 2), sum);
                due(told + " the greatest", x.coded(pool, 0, paired, 3), most);
            }
        }
        HeadsetBands z = new HeadsetBands();
        z.run(1);
        for (int b = 0; b < 8; b++) {
            z.loud(b, 8);
        }
        due("LOUD as it is", z.coded(128, 1, 1, 0) < z.code(NONE), true);
        greatestIsTheFirst();
        greatestIsTheLast();
    }

    /** No bits at all: what is greatest as SPLIT is furthest off. */
    private static HeadsetBands unheard(int left, int right, int slots) {
        HeadsetBands x = new HeadsetBands();
        x.tone(0, 200, left, 0);
        x.tone(1, 2, right, 0);
        for (int b = 0; b < 8; b++) {
            x.loud(b, 8);
        }
        x.run(slots);
        due("no BITS", x.coded(128, 1, 0, 0), 13);
        return x;
    }

    private static void greatestIsTheFirst() {
        // FRAME 13 begins at SAMPLE 416, of -67, and goes to 0
        HeadsetBands x = unheard(80, 0, 53);
        int first = Math.abs(x.band(0, 0, 0, 0));
        int others = 0;
        for (int i = 1; i < 64; i++) {
            others = Math.max(others, Math.abs(x.band(i / 32, i / 4 % 8, i % 4, 0)));
        }
        due("BLOCK 0 of BAND 0, CHANNEL 0", first > others, true);
        due("the greatest", x.coded(128, 1, 0, 3), first);
    }

    private static void greatestIsTheLast() {
        HeadsetBands x = unheard(0, 60, 1);
        int most = 0;
        for (int k = 0; k < 4; k++) {
            most = Math.max(most, Math.abs(x.band(1, 4, k, 0)));
        }
        due("of BAND 4, CHANNEL 1", x.coded(128, 1, 0, 3), most);
    }

    // Promise 18: "the first of like ones"
    private static void worstOfLikeOnes() {
        HeadsetBands x = small();
        x.sets(3, 0);
        x.run(1);
        for (int b = 0; b < 8; b++) {
            x.loud(b, 8);
        }
        due("both channels are alike: CHANNEL 0", x.worst(128, 1, 0), 4);
        due("all that is there", x.worst(128, 1, 1), 153 + 144 + 127 + 128);
        HeadsetBands y = new HeadsetBands();
        y.tone(0, 2, 0, 0);
        y.tone(1, 2, 64, 0);
        y.run(1);
        for (int b = 0; b < 8; b++) {
            y.loud(b, 8);
        }
        due("8 and the BAND", y.worst(2, 1, 0), 12);
        due("how much", y.worst(2, 1, 1), 153 + 144 + 127 + 128);
        HeadsetBands z = new HeadsetBands();
        z.tone(0, 2, 0, 0);
        z.tone(1, 2, 0, 0);
        z.run(1);
        due("all alike: the first", z.worst(2, 0, 0), 0);
        due("of nothing", z.worst(2, 0, 1), 0);
    }

    // Promise 19: as SPLIT, BANDS 0 .. 7, whatever PAIRED is
    private static void pairedOfBands() {
        for (int paired = 0; paired < 2; paired++) {
            HeadsetBands x = new HeadsetBands();
            x.tone(0, 2, 1, 0);
            x.tone(1, 2, 2, 0);
            x.sets(3, paired);
            x.run(1);
            due("BAND 4 apart", x.paired(4, 0), 10 + 19);
            due("BAND 4 as MIDDLES, downwards, and SIDES", x.paired(4, 1), 15 + 9);
            HeadsetBands y = small();
            y.sets(3, paired);
            y.run(1);
            due("BAND 7 apart", y.paired(7, 0), 64);
            due("BAND 7 paired", y.paired(7, 1), 32);
            due("BAND 0 apart", y.paired(0, 0), 30);
        }
    }

    // Promise 20
    private static void shareOfBoth() {
        HeadsetBands x = new HeadsetBands();
        x.run(1);
        int[] sums = new int[2];
        for (int i = 0; i < 16; i++) {
            sums[i / 8] += x.dealt(i / 8, i % 8, 2);
        }
        due("CHANNEL 0", x.share(0), sums[0]);
        due("CHANNEL 1", x.share(1), sums[1]);
        due("both", x.share(NONE), sums[0] + sums[1]);
        due("-2", x.share(-2), NONE);
        due("2", x.share(2), NONE);
        due("bytes by it", x.code(NONE), 13 + (x.share(NONE) + 1) / 2);
    }

    // Promise 21
    private static void damagedBits() {
        HeadsetBands x = small();
        x.run(1);
        due("bits", x.code(NONE), 19);
        due("the first bit", x.damaged(0, NONE), 0);
        due("the last of byte 0", x.damaged(7, NONE), 0);
        due("the first of byte 1", x.damaged(8, NONE), 1);
        due("the last of byte 2", x.damaged(23, NONE), 1);
        due("the first of CHECK", x.damaged(24, NONE), 1);
        due("the last of CHECK", x.damaged(31, NONE), 1);
        due("the last bit", x.damaged(151, NONE), 1);
        due("none behind it", x.damaged(152, NONE), NONE);
        due("none ahead", x.damaged(-1, NONE), NONE);
        due("two of byte 0", x.damaged(0, 7), 0);
        due("byte 0 and CHECK", x.damaged(24, 3), 0);
        due("byte 0 and the last", x.damaged(3, 151), 0);
        due("two of CHECK", x.damaged(24, 31), 1);
        due("the first and none", x.damaged(0, 152), NONE);
        due("other -2", x.damaged(0, -2), NONE);
        due("twice the same, the first", x.damaged(0, 0), NONE);
        due("twice the same, the last", x.damaged(151, 151), NONE);
        due("neighbours", x.damaged(150, 151), 1);
        due("the CODE stays", x.code(0), 156);
        x.run(4);
        due("bits of FRAME 1", x.damaged(111, NONE), 1);
        due("not those of FRAME 0", x.damaged(112, NONE), NONE);
        due("other, too", x.damaged(0, 112), NONE);
        unseenBits();
    }

    // the highest bit first: a bit 255 - 8 ahead of the last changes the lowest bit of CHECK alone
    private static void unseenBits() {
        HeadsetBands x = broad();
        x.sets(1, 128);
        x.sets(2, 0);
        x.run(1);
        int last = 8 * x.code(NONE) - 1;
        for (int bit = 0; bit < 8; bit++) {
            due("bit " + bit + " of CHECK and its like", x.damaged(31 - bit, last - 247 - bit), 2);
            due("the other way", x.damaged(last - 247 - bit, 31 - bit), 2);
            due("the next one", x.damaged(31 - bit, last - 246 - bit), 1);
            due("the one ahead", x.damaged(31 - bit, last - 248 - bit), 1);
            due("of the like alone", x.damaged(last - 247 - bit, NONE), 1);
        }
        int unseen = 0;
        for (int bit = 32; bit < 32 + 255; bit++) {
            unseen += x.damaged(bit, 31) == 2 ? 1 : 0;
        }
        due("one of 255 bits with the last of CHECK", unseen, 1);
    }

    // Promise 25
    private static void lineOfPackets() {
        HeadsetBands x = small();
        x.sets(4, 16);
        x.sets(8, 10);
        x.burst(18);
        x.run(14);
        due("in line", x.count(5), 4);
        for (int i = 0; i < 4; i++) {
            due("NUMBER", x.line(i, 0), i);
            due("SENT", x.line(i, 1), i == 0 ? 14 : 0);
            due("GIVEN UP at", x.line(i, 2), 4 * i + 16);
            due("PIECES", x.line(i, 3), 2);
            due("came over", x.line(i, 4), 0);
        }
        for (int what = -1; what < 7; what++) {
            due("behind the last", x.line(4, what), NONE);
            due("ahead of the first", x.line(-1, what), NONE);
        }
        due("what -1", x.line(0, -1), NONE);
        due("what 5", x.line(0, 5), NONE);
        x.run(5);
        due("0 was GIVEN UP at SLOT 16", x.line(0, 0), 1);
        due("SENT at 16, 17, 18", x.line(0, 1), 3);
        due("one came over", x.line(0, 4), 1);
        x.run(1);
        due("1 ARRIVED", x.line(0, 0), 2);
        due("none of 2 was SENT", x.line(0, 1), 0);
        x.sets(4, 1);
        due("by DEADLINE as it is", x.line(0, 2), 9);
    }

    // Promise 26
    private static void packetAllItsLife() {
        HeadsetBands x = small();
        x.run(4);
        due("not made yet", x.packet(1, 0) * 100 + x.packet(1, 1) * 10 + x.packet(1, 2), 0);
        due("no SLOT", x.packet(1, 3), NONE);
        x.burst(2);
        x.run(2);
        due("in line, SENT twice, not PLAYED", x.packet(1, 0) * 100 + x.packet(1, 1) * 10 + x.packet(1, 2), 120);
        due("no SLOT yet", x.packet(1, 3), NONE);
        x.run(1);
        due("ARRIVED, SENT thrice, not PLAYED", x.packet(1, 0) * 100 + x.packet(1, 1) * 10 + x.packet(1, 2), 230);
        due("the SLOT", x.packet(1, 3), 6);
        x.run(10);
        due("ARRIVED, heard by CODE", x.packet(1, 0) * 100 + x.packet(1, 1) * 10 + x.packet(1, 2), 231);
        due("the SLOT still", x.packet(1, 3), 6);
        HeadsetBands y = small();
        y.run(1);
        due("ARRIVED at SLOT 0", y.packet(0, 3), 0);
        HeadsetBands z = small();
        z.sets(7, 1);
        z.run(1);
        z.sets(5, 100);
        z.run(7);
        due("MADE UP while in line", z.packet(1, 0) * 10 + z.packet(1, 2), 12);
        z.run(10);
        due("MADE UP and GIVEN UP", z.packet(1, 0) * 10 + z.packet(1, 2), 32);
        z.sets(6, 50);
        Story.pass(z, 60);
        int next = z.count(7);
        due("not PLAYED yet", z.packet(next, 2), 0);
        due("PLAYED", z.packet(next - 1, 2), 2);
    }

    private static void packetsOfAllNumbers() {
        HeadsetBands x = small();
        due("2,499 of a new object", x.packet(2499, 0), 0);
        due("2,499 of a new object, no SLOT", x.packet(2499, 3), NONE);
        due("2,500", x.packet(2500, 0), NONE);
        due("-1", x.packet(-1, 0), NONE);
        Story.pass(x, 9996);
        due("2,499 not made yet", x.packet(2499, 0), 0);
        due("2,498", x.packet(2498, 3), 9992);
        x.run(1);
        due("2,499 ARRIVED", x.packet(2499, 3), 9996);
        due("2,499 was SENT", x.packet(2499, 1), 1);
        due("not PLAYED", x.packet(2499, 2), 0);
        x.run(3);
        due("2,498 heard", x.packet(2498, 2), 1);
        due("2,499 not PLAYED any more", x.packet(2499, 2), 0);
        due("0 still known", x.packet(0, 3), 0);
    }

    // Promise 27: "0 the latest, 15 at most"
    private static void playedSixteen() {
        HeadsetBands x = small();
        x.sets(7, 1);
        for (int frames = 1; frames <= 18; frames++) {
            for (int tries = 0; tries < Checks.TRIES && x.count(7) < frames; tries++) {
                x.run(1);
            }
            int last = Math.min(16, frames);
            due("the latest", x.played(0, 0), frames - 1);
            due("the oldest told", x.played(last - 1, 0), frames - last);
            due("none ahead of it", x.played(last, 0), MIN);
            due("none ahead of it, SLOT", x.played(last, 6), MIN);
            due("the SLOT", x.played(0, 6), x.count(0) - 1);
        }
        due("SLOT of the first told", x.played(15, 6), 4 * 2 + 3);
        due("by CODE", x.played(15, 1), 1);
        due("FADE by CODE", x.played(15, 5), 8);
        due("LEVEL", x.played(15, 2), 1);
    }

    private static int off(HeadsetBands x, int number) {
        int sum = 0;
        for (int c = 0; c < 2; c++) {
            for (int i = 0; i < 32; i++) {
                sum += Math.abs(x.heard(c, 31 - i) - x.source(c, 32 * number + i));
            }
        }
        return sum;
    }

    // "differences of its HEARD SAMPLES and the SOURCE (as it was)"
    private static void playedOffTheSource() {
        HeadsetBands x = broad();
        x.run(8);
        int first = off(x, 0);
        due("FRAME 0", x.played(0, 4), first);
        x.tone(0, 50, 10, 0);
        due("the SOURCE as it was", x.played(0, 4), first);
        due("count(17), too", x.count(17), first);
        x.sets(0, 99);
        due("SEED, too", x.played(0, 4), first);
        x.run(4);
        int second = off(x, 1);
        due("FRAME 1: the SOURCE when it is PLAYED", x.played(0, 4), second);
        due("FRAME 0 still", x.played(1, 4), first);
        due("together", x.count(17), first + second);
        // MADE UP ones, too, but they do not count
        x.burst(99);
        for (int tries = 0; tries < Checks.TRIES && x.count(14) == 0; tries++) {
            x.run(1);
        }
        int made = off(x, x.played(0, 0));
        due("MADE UP", x.played(0, 1), 2);
        due("its differences", x.played(0, 4), made);
        int byCode = 0;
        for (int ago = 0; ago < x.count(7); ago++) {
            byCode += x.played(ago, 1) == 1 ? x.played(ago, 4) : 0;
        }
        due("by CODE alone", x.count(17), byCode);
    }

    // Promise 28
    private static void lateOfOneAndMore() {
        HeadsetBands x = small();
        x.run(7);
        for (int what = 0; what < 4; what++) {
            due("without any", x.late(what), MIN);
        }
        x.run(1);
        due("one: the least", x.late(0), 7);
        due("one: the greatest", x.late(1), 7);
        due("one: no change", x.late(2), 0);
        due("one: none MADE UP", x.late(3), 0);
        due("what -1", x.late(-1), MIN);
        due("what 4", x.late(4), MIN);
        // a slow clock: 950 a SLOT; SLOTS 4 and n of PHASE 4,000 from SLOT 4 on
        HeadsetBands y = small();
        y.sets(6, -50);
        y.run(30);
        int frames = y.count(7);
        due("30 SLOTS", frames, 6);
        int[] lates = new int[frames];
        for (int k = 0; k < frames; k++) {
            lates[k] = 4 + (4000 * (k + 1) + 949) / 950 - 1 - 4 * k;
            due("SLOT of FRAME " + k, y.played(frames - 1 - k, 6) - 4 * k, lates[k]);
        }
        due("the least", y.late(0), 8);
        due("the greatest", y.late(1), lates[frames - 1]);
        due("changes", y.late(2), lates[frames - 1] - 8);
        // a quick one: 1,050 a SLOT, so that the first is the latest
        HeadsetBands v = small();
        v.sets(6, 50);
        v.run(35);
        due("35 SLOTS", v.count(7), 8);
        due("the greatest is the first", v.late(1), 7);
        due("the least is the last", v.late(0), v.played(0, 6) - 4 * 7);
        due("less by one", v.late(0), 6);
        due("changes", v.late(2), 1);
        // all but one of the last sixteen MADE UP, then all
        HeadsetBands z = small();
        z.run(8);
        z.sets(5, 100);
        for (int tries = 0; tries < Checks.TRIES && z.count(14) < 15; tries++) {
            z.run(1);
        }
        due("fifteen", z.late(3), 15);
        for (int tries = 0; tries < Checks.TRIES && z.count(14) < 16; tries++) {
            z.run(1);
        }
        due("sixteen", z.late(3), 16);
        for (int tries = 0; tries < Checks.TRIES && z.count(14) < 17; tries++) {
            z.run(1);
        }
        due("of sixteen at most", z.late(3), 16);
        due("all that were", z.count(14), 17);
    }

    // Promise 29
    private static void delaysOfSixteen() {
        for (int delay = 0; delay < 16; delay++) {
            HeadsetBands x = small();
            x.sets(4, 16);
            x.burst(delay);
            x.run(delay + 1);
            for (int n = 0; n < 16; n++) {
                due("just " + n + " of delay " + delay, x.delays(n, 0), n == delay ? 1 : 0);
                due("more than " + n + " of delay " + delay, x.delays(n, 1), delay > n ? 1 : 0);
            }
        }
        HeadsetBands y = small();
        y.run(9);
        due("three at once", y.delays(0, 0), 3);
        due("none more", y.delays(0, 1), 0);
        y.burst(99);
        y.run(40);
        due("GIVEN UP ones do not count", y.delays(0, 0) + y.delays(0, 1), 3);
        due("-1", y.delays(-1, 1), NONE);
        due("16", y.delays(16, 1), NONE);
    }

    // Promise 30: "(SLOT 9,999 is the last)"
    private static void wouldOfTheLastSlots() {
        HeadsetBands x = small();
        Story.pass(x, 9900);
        due("would(100) to the last SLOT", x.would(100, 0), 10000);
        x.run(1);
        due("would(100), one too many", x.would(100, 0), MIN);
        due("would(99)", x.would(99, 0), 10000);
        due("would(99), FRAMES coded", x.would(99, 1), 2500);
        x.run(98);
        due("would(1)", x.would(1, 0), 10000);
        due("would(2), one too many", x.would(2, 0), MIN);
        x.run(1);
        due("would(1), one too many", x.would(1, 0), MIN);
        due("would(0)", x.would(0, 0), MIN);
        due("SLOTS", x.count(0), 10000);
        x.restart();
        due("behind restart()", x.would(100, 0), 100);
    }

    private static void wouldChangesNothing() {
        Checks.Calls state = x -> {
            x.sets(5, 30);
            x.sets(10, 100);
            x.sets(9, 1);
            x.run(77);
            x.keep(0);
            x.burst(3);
            x.run(11);
        };
        Checks.Calls asked = x -> {
            for (int n = 1; n <= 100; n += 9) {
                x.would(n, n % 37);
            }
        };
        CHECKS.same("would()", Checks.inOrder(state, asked), state);
        CHECKS.same("would(), again()", Checks.inOrder(state, asked, x -> x.again(0)),
            Checks.inOrder(state, x -> x.again(0)));
        HeadsetBands x = Checks.after(state);
        int[] would = new int[48];
        for (int what = 0; what < 48; what++) {
            would[what] = x.would(41, what);
        }
        x.run(41);
        for (int what = 0; what < 48; what++) {
            due("would(41, " + what + ")", would[what], x.count(what));
        }
    }

    // Promise 31
    private static void countOfPlayer() {
        HeadsetBands x = small();
        x.sets(7, 1);
        x.run(3);
        due("none PLAYED", x.count(13) + x.count(14) + x.count(7), 0);
        due("begun", x.count(8), 1);
        x.run(1);
        due("one by CODE", x.count(13), 1);
        x.burst(99);
        x.run(4);
        due("one MADE UP", x.count(14) * 100 + x.count(15) * 10 + x.count(16), 111);
        x.run(4);
        due("two MADE UP", x.count(14) * 100 + x.count(15) * 10 + x.count(16), 222);
        x.burst(0);
        x.run(4);
        due("by CODE again", x.count(13), 2);
        due("two so far, none just now, the most 2", x.count(14) * 100 + x.count(15) * 10 + x.count(16), 202);
        x.burst(4);
        x.run(4);
        due("three so far, one just now, the most 2", x.count(14) * 100 + x.count(15) * 10 + x.count(16), 312);
        due("FRAMES PLAYED", x.count(7), 5);
        due("of them", x.count(13) + x.count(14), 5);
    }

    // "17 differences .., 18 the greatest of them"
    private static void countOfHeard() {
        HeadsetBands x = broad();
        x.sets(7, 1);
        int sum = 0;
        int most = 0;
        for (int frame = 0; frame < 3; frame++) {
            x.run(4);
            due("PLAYED", x.count(7), frame + 1);
            for (int i = 0; i < 64; i++) {
                int one = Math.abs(x.heard(i / 32, 31 - i % 32) - x.source(i / 32, 32 * frame + i % 32));
                sum += one;
                most = Math.max(most, one);
            }
            due("all differences", x.count(17), sum);
            due("the greatest", x.count(18), most);
        }
        x.burst(99);
        x.run(20);
        due("MADE UP ones do not count", x.count(17), sum);
        due("nor for the greatest", x.count(18), most);
    }

    private static void countOfLine() {
        HeadsetBands x = small();
        x.run(4);
        due("bytes", x.count(19), 19);
        x.run(1);
        due("bytes of both", x.count(19), 19 + 14);
        due("SENT", x.count(2), 2);
        due("came over", x.count(32), 2);
        due("ARRIVED", x.count(3), 2);
        x.burst(99);
        x.run(7);
        due("SENT, again ones, too", x.count(2), 2 + 4);
        due("came over still", x.count(32), 2);
        due("in line", x.count(5), 1);
        due("a BURST to come", x.count(36), 95);
        due("what is no count", x.count(37), MIN);
        due("what is no count", x.count(38), MIN);
        due("what is no count", x.count(39), MIN);
        due("LOUD", x.count(47), 6);
        due("behind LOUD", x.count(48), MIN);
    }

    // "An object is used for at most 512 calls"
    private static void callFiveHundredTwelve() {
        HeadsetBands x = small();
        for (int call = 3; call < 512; call++) {
            x.run(1);
        }
        due("the 512th call", x.count(0), 509);
        HeadsetBands y = new HeadsetBands();
        for (int call = 0; call < 256; call++) {
            due("keep", y.keep(call % 2), true);
            due("again", y.again(call % 2), true);
        }
    }
}
