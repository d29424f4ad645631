/** Each promise by itself: ordinary inputs, the edges the document names, wrong inputs. Numbers reckoned by hand. */
public final class PromiseTest {
    private static final int NONE = HeadsetBands.NONE;
    private static final int MIN = Integer.MIN_VALUE;
    private static final Checks CHECKS = new Checks();

    private static void due(String what, long got, long want) {
        CHECKS.due(what, got, want);
    }

    private static void due(String what, boolean got, boolean want) {
        CHECKS.due(what, got, want);
    }

    public static void main(String[] args) {
        p1NewObject();
        p2Tone();
        p3Sets();
        p4Loud();
        p5Burst();
        p6Run();
        p7Restart();
        p8p9KeepAgain();
        p10Source();
        p11Band();
        p12Dealt();
        p13Code();
        p14DealtBy();
        p15Cost();
        p16Least();
        p17Coded();
        p18Worst();
        p19Paired();
        p20Share();
        p21Damaged();
        p22Heard();
        p23Spectrum();
        p24MadeUp();
        p25Line();
        p26Packet();
        p27Played();
        p28Late();
        p29Delays();
        p30Would();
        p31Count();
        draws();
        drawsOfErrors();
        silence();
        steered();
        fullBuffer();
        CHECKS.end();
    }

    /**
     * Both channels -64, 64, -64, ..: small enough to be split, coded and joined by hand. One piece of 19
     * bytes a frame.
     */
    private static HeadsetBands small() {
        HeadsetBands x = new HeadsetBands();
        x.tone(0, 2, 64, 0);
        x.tone(1, 2, 64, 0);
        return x;
    }

    private static HeadsetBands smallCoded() {
        HeadsetBands x = small();
        x.run(1);
        return x;
    }

    private static HeadsetBands ran(int n) {
        HeadsetBands x = new HeadsetBands();
        x.run(n);
        return x;
    }

    private static void p1NewObject() {
        HeadsetBands x = new HeadsetBands();
        int[] told = {1, 40, 1, 1, 8, 0, 0, 2, 30, 0, 0, 40};
        for (int i = 0; i < told.length; i++) {
            due("new: count(" + (20 + i) + ")", x.count(20 + i), told[i]);
        }
        int[] loud = {0, 0, 1, 2, 3, 4, 5, 6};
        for (int i = 0; i < 8; i++) {
            due("new: count(" + (40 + i) + ")", x.count(40 + i), loud[i]);
        }
        for (int i = 0; i < 20; i++) {
            due("new: count(" + i + ")", x.count(i), 0);
        }
        for (int i = 32; i < 37; i++) {
            due("new: count(" + i + ")", x.count(i), 0);
        }
        due("new: source(0, 1)", x.source(0, 1), -900);
        due("new: source(1, 1)", x.source(1, 1), -920);
        due("new: source(1, 25)", x.source(1, 25), 1000);
        due("NONE", NONE, -1);
    }

    private static void p2Tone() {
        HeadsetBands x = new HeadsetBands();
        due("tone(0, 2, 2000, 500)", x.tone(0, 2, 2000, 500), true);
        due("source(0, 0), cut below", x.source(0, 0), -2048);
        due("source(0, 1), cut above", x.source(0, 1), 2047);
        due("tone(1, 200, 0, 500)", x.tone(1, 200, 0, 500), true);
        due("source(1, 0), noise alone", x.source(1, 0), 156);
        due("the other channel stays", x.source(0, 1), 2047);
        int[][] refused = {{-1, 40, 1, 0}, {2, 40, 1, 0}, {0, 1, 1, 0}, {0, 201, 1, 0}, {0, 40, -1, 0},
            {0, 40, 2001, 0}, {0, 40, 1, -1}, {0, 40, 1, 501}};
        for (int[] r : refused) {
            due("tone " + r[0] + " " + r[1] + " " + r[2] + " " + r[3], x.tone(r[0], r[1], r[2], r[3]), false);
        }
        due("source(1, 0) after refusals", x.source(1, 0), 156);
        due("tone(0, 3, 7, 0)", x.tone(0, 3, 7, 0), true);
        due("source(0, 0)", x.source(0, 0), -7);
        due("source(0, 1)", x.source(0, 1), 2);
        due("source(0, 2)", x.source(0, 2), 3);
        due("tone(1, 2, 0, 1)", x.tone(1, 2, 0, 1), true);
        due("NOISE 1: 4,660 modulo 3, less 1", x.source(1, 0), 0);
        due("NOISE 1: 2,572 modulo 3, less 1", x.source(1, 1), 0);
        due("NOISE 1: 484 modulo 3, less 1", x.source(1, 2), 0);
        due("NOISE 1: 8,403 modulo 3, less 1", x.source(1, 3), -1);
        due("tone(1, 2, 0, 0)", x.tone(1, 2, 0, 0), true);
        due("silence", x.source(1, 1), 0);
    }

    private static void p3Sets() {
        int[][] ranges = {{0, 999999}, {2, 128}, {0, 1}, {0, 1}, {1, 16}, {0, 100}, {-50, 50}, {1, 6}, {10, 80},
            {0, 1}, {0, 1000}};
        HeadsetBands x = new HeadsetBands();
        for (int what = 0; what < ranges.length; what++) {
            for (int v : ranges[what]) {
                due("sets(" + what + ", " + v + ")", x.sets(what, v), true);
                due("told " + what, x.count(20 + what), v);
            }
            due("sets(" + what + ") below", x.sets(what, ranges[what][0] - 1), false);
            due("sets(" + what + ") above", x.sets(what, ranges[what][1] + 1), false);
            due("told " + what + " still", x.count(20 + what), ranges[what][1]);
        }
        due("sets(-1, 1)", x.sets(-1, 1), false);
        due("sets(11, 1)", x.sets(11, 1), false);
        HeadsetBands y = new HeadsetBands();
        y.sets(1, 77);
        due("IN USE at once", y.count(31), 77);
        y.tone(0, 40, 0, 500);
        y.sets(0, 500);
        due("SEED in the source", y.source(0, 0), 0);
        y.sets(2, 0);
        y.sets(3, 0);
        y.run(1);
        due("METHOD, PAIRED in the code", y.code(1), 0);
        due("POOL in the code", y.code(2), 77);
    }

    private static void p4Loud() {
        HeadsetBands x = smallCoded();
        due("NEED of 0, 0", x.dealt(0, 0, 1), 2);
        due("loud(0, 8)", x.loud(0, 8), true);
        due("NEED by LOUD 8", x.dealt(0, 0, 1), -4);
        due("loud(0, -4)", x.loud(0, -4), true);
        due("NEED by LOUD -4", x.dealt(0, 0, 1), 4);
        due("count(40)", x.count(40), -4);
        due("loud(7, 0)", x.loud(7, 0), true);
        due("count(47)", x.count(47), 0);
        due("NEED of both channels", x.dealt(1, 7, 1), 3);
        due("loud(-1, 0)", x.loud(-1, 0), false);
        due("loud(8, 0)", x.loud(8, 0), false);
        due("loud(0, -5)", x.loud(0, -5), false);
        due("loud(0, 9)", x.loud(0, 9), false);
        due("count(40) still", x.count(40), -4);
        // the hearer goes by it, too: with bits misread, other samples are heard
        HeadsetBands y = small();
        HeadsetBands z = small();
        y.run(7);
        z.run(7);
        z.loud(0, 8);
        y.run(1);
        z.run(1);
        due("both play", y.count(13) + z.count(13), 2);
        due("heard(0, 31) by LOUD as coded", y.heard(0, 31), -51);
        due("heard otherwise by other LOUD", z.heard(0, 31) != -51, true);
    }

    private static void p5Burst() {
        HeadsetBands x = small();
        due("burst(2)", x.burst(2), 0);
        due("burst(3) in place of it", x.burst(3), 2);
        x.run(2);
        due("one is to come", x.count(36), 1);
        due("burst(100)", x.burst(100), NONE);
        due("burst(-1)", x.burst(-1), NONE);
        due("still one", x.count(36), 1);
        due("sent, none over", x.count(2) * 10 + x.count(32), 20);
        x.run(2);
        due("arrived behind the burst", x.packet(0, 3), 3);
        due("burst(99)", x.burst(99), 0);
        due("burst(0)", x.burst(0), 99);
        // nothing is drawn for a piece of a burst: the first draw is 40 of 100
        HeadsetBands y = small();
        y.sets(5, 40);
        y.burst(1);
        y.run(2);
        due("the first draw comes behind the burst", y.packet(0, 3), 1);
    }

    private static void p6Run() {
        HeadsetBands x = small();
        due("run(0)", x.run(0), NONE);
        due("run(401)", x.run(401), NONE);
        due("run(-1)", x.run(-1), NONE);
        due("no slot yet", x.count(0), 0);
        due("run(7)", x.run(7), 0);
        due("run(1)", x.run(1), 1);
        due("run(400)", x.run(400), 100);
        for (int i = 0; i < 23; i++) {
            x.run(400);
        }
        due("slots", x.count(0), 9608);
        due("run(393) is one too many", x.run(393), NONE);
        due("slots still", x.count(0), 9608);
        due("run(392)", x.run(392), 98);
        due("run(1) beyond the last", x.run(1), NONE);
        due("all frames", x.count(1), 2500);
        due("packet(2499, 0)", x.packet(2499, 0), 2);
    }

    private static void p7Restart() {
        due("restart() of a new one", new HeadsetBands().restart(), 0);
        Checks.Calls told = x -> {
            x.tone(0, 30, 900, 40);
            x.sets(0, 777);
            x.sets(1, 60);
            x.sets(5, 30);
            x.sets(6, -20);
            x.sets(7, 3);
            x.sets(9, 1);
            x.sets(10, 300);
            x.loud(3, 7);
        };
        Checks.Calls ran = x -> {
            x.run(203);
            x.burst(7);
            x.keep(1);
        };
        Checks.Calls anew = x -> x.restart();
        due("restart()", Checks.after(Checks.inOrder(told, ran)).restart(), 203);
        CHECKS.same("restart(): all as at first but what was told", Checks.inOrder(told, ran, anew), told);
        CHECKS.same("restart() twice", Checks.inOrder(told, ran, anew, anew), told);
        CHECKS.same("the same once more", Checks.inOrder(told, ran, anew, x -> x.run(150)),
            Checks.inOrder(told, x -> x.run(150)));
        CHECKS.same("what is kept stays", Checks.inOrder(told, ran, anew, x -> x.run(50), x -> x.again(1)),
            Checks.inOrder(told, ran));
        HeadsetBands last = new HeadsetBands();
        Story.pass(last, 10000);
        due("restart() behind the last SLOT", last.restart(), 10000);
        due("SLOT 0 is to come", last.count(0), 0);
        due("and comes", last.run(400) > 0, true);
    }

    private static void p8p9KeepAgain() {
        Checks.Calls first = x -> {
            x.sets(5, 40);
            x.sets(10, 200);
            x.sets(6, 17);
            x.tone(1, 33, 700, 90);
            x.loud(2, -3);
            x.run(77);
            x.burst(2);
        };
        Checks.Calls other = x -> {
            x.tone(1, 50, 100, 0);
            x.sets(0, 5);
            x.sets(5, 0);
            x.sets(1, 100);
            x.sets(2, 0);
            x.sets(3, 0);
            x.sets(8, 50);
            x.sets(9, 1);
            x.loud(2, 1);
            x.burst(50);
            x.run(40);
        };
        Checks.Calls more = x -> x.run(90);
        Checks.Calls keep0 = x -> due("keep(0)", x.keep(0), true);
        Checks.Calls keep1 = x -> due("keep(1)", x.keep(1), true);
        Checks.Calls again0 = x -> due("again(0)", x.again(0), true);
        Checks.Calls again1 = x -> due("again(1)", x.again(1), true);
        CHECKS.same("keep() changes nothing", Checks.inOrder(first, keep0), first);
        CHECKS.same("as kept", Checks.inOrder(first, keep0, other, again0), first);
        CHECKS.same("goes on as it went on", Checks.inOrder(first, keep0, other, again0, more),
            Checks.inOrder(first, more));
        CHECKS.same("again() once more", Checks.inOrder(first, keep0, other, again0, more, again0), first);
        CHECKS.same("0 of both", Checks.inOrder(first, keep0, more, keep1, other, again0), first);
        CHECKS.same("1 of both", Checks.inOrder(first, keep0, more, keep1, other, again1), Checks.inOrder(first, more));
        CHECKS.same("kept anew", Checks.inOrder(keep0, first, keep0, other, again0), first);
        CHECKS.same("kept at first", Checks.inOrder(keep1, first, again1), x -> { });
        CHECKS.same("kept behind again()", Checks.inOrder(first, keep0, other, again0, keep1, other, again1), first);
        CHECKS.same("restart() of what was kept", Checks.inOrder(first, keep0, x -> x.restart(), again0), first);
    }

    private static void p10Source() {
        HeadsetBands x = new HeadsetBands();
        due("source(0, 99999)", x.source(0, 99999), -900);
        due("source(0, 100000)", x.source(0, 100000), MIN);
        due("source(0, -1)", x.source(0, -1), MIN);
        due("source(-1, 0)", x.source(-1, 0), MIN);
        due("source(2, 0)", x.source(2, 0), MIN);
        x.tone(0, 7, 10, 0);
        int[] wave = {-10, -5, 1, 7, 8, 2, -4, -10};
        for (int i = 0; i < wave.length; i++) {
            due("source(0, " + i + ")", x.source(0, i), wave[i]);
        }
        x.tone(1, 2, 0, 3);
        x.sets(0, 999999);
        // 7,919 times 99,999 and 104,729 and 999,999, modulo 10,007, modulo 7, less 3
        due("noise far out", x.source(1, 99999), (7919L * 99999 + 104729 + 999999) % 10007 % 7 - 3);
    }

    private static final int[][] SMALL_BANDS = {{11, 13, 5, 38, -153, -68, -8, -32}, {2, -5, 10, 2, -144, 4, -8, 0},
        {-2, 0, 0, 0, -127, 0, 0, 0}, {0, 0, 0, 0, -128, 0, 0, 0}};
    private static final int[][] SMALL_QUANTS = {{2, 2, 1, 2, 0, 0, NONE, NONE}, {1, 1, 2, 1, 0, 1, NONE, NONE},
        {1, 1, 1, 1, 0, 1, NONE, NONE}, {1, 1, 1, 1, 0, 1, NONE, NONE}};
    private static final int[][] SMALL_BACKS = {{10, 10, 0, 42, -171, -86, 0, 0}, {0, 0, 10, 0, -171, 0, 0, 0},
        {0, 0, 0, 0, -171, 0, 0, 0}, {0, 0, 0, 0, -171, 0, 0, 0}};

    private static void p11Band() {
        HeadsetBands x = smallCoded();
        for (int k = 0; k < 4; k++) {
            for (int b = 0; b < 8; b++) {
                String at = b + ", " + k;
                due("band(0, " + at + ", 0)", x.band(0, b, k, 0), SMALL_BANDS[k][b]);
                due("band(1, " + at + ", 0)", x.band(1, b, k, 0), SMALL_BANDS[k][b]);
                due("band(0, " + at + ", 1)", x.band(0, b, k, 1), SMALL_BANDS[k][b]);
                due("band(1, " + at + ", 1)", x.band(1, b, k, 1), b == 7 ? SMALL_BANDS[k][b] : 0);
                due("band(0, " + at + ", 2)", x.band(0, b, k, 2), SMALL_QUANTS[k][b]);
                due("band(1, " + at + ", 2)", x.band(1, b, k, 2), NONE);
                due("band(0, " + at + ", 3)", x.band(0, b, k, 3), SMALL_BACKS[k][b]);
                due("band(1, " + at + ", 3)", x.band(1, b, k, 3), 0);
            }
        }
        int[][] others = {{-1, 0, 0, 0}, {2, 0, 0, 0}, {0, -1, 0, 0}, {0, 8, 0, 0}, {0, 0, -1, 0}, {0, 0, 4, 0},
            {0, 0, 0, -1}, {0, 0, 0, 4}};
        for (int[] o : others) {
            due("band of others", x.band(o[0], o[1], o[2], o[3]), MIN);
        }
        due("ahead of any", small().band(0, 0, 0, 0), MIN);
        x.run(4);
        due("the next frame goes on with the nodes", x.band(0, 4, 0, 0), -128);
        due("and tells nothing of the first", x.band(0, 0, 0, 0), 0);
    }

    private static void p12Dealt() {
        HeadsetBands x = smallCoded();
        int[] scales = {4, 4, 4, 6, 8, 7, 4, 6};
        int[] needs = {2, 2, 1, 2, 2, 1, -1, 0};
        int[] bits = {2, 2, 2, 2, 2, 2, 0, 0};
        for (int b = 0; b < 8; b++) {
            due("SCALE of " + b, x.dealt(0, b, 0), scales[b]);
            due("NEED of " + b, x.dealt(0, b, 1), needs[b]);
            due("BITS of " + b, x.dealt(0, b, 2), bits[b]);
            due("TWINNED " + b, x.dealt(0, b, 3), b < 7 ? 1 : 0);
            due("SCALE of the side " + b, x.dealt(1, b, 0), b < 7 ? 0 : 6);
            due("NEED of the side " + b, x.dealt(1, b, 1), 0);
            due("BITS of the side " + b, x.dealt(1, b, 2), 0);
            due("TWINNED side " + b, x.dealt(1, b, 3), b < 7 ? 1 : 0);
        }
        due("dealt(-1, 0, 0)", x.dealt(-1, 0, 0), MIN);
        due("dealt(2, 0, 0)", x.dealt(2, 0, 0), MIN);
        due("dealt(0, -1, 0)", x.dealt(0, -1, 0), MIN);
        due("dealt(0, 8, 0)", x.dealt(0, 8, 0), MIN);
        due("dealt(0, 0, -1)", x.dealt(0, 0, -1), MIN);
        due("dealt(0, 0, 4)", x.dealt(0, 0, 4), MIN);
        due("ahead of any", small().dealt(0, 0, 0), MIN);
        HeadsetBands y = small();
        y.sets(2, 0);
        y.run(1);
        y.sets(2, 1);
        due("NEED by the METHOD of that FRAME", y.dealt(0, 4, 1), 8);
        HeadsetBands z = small();
        z.sets(3, 0);
        z.run(1);
        due("not TWINNED with PAIRED 0", z.dealt(0, 0, 3), 0);
        due("SCALE of the right", z.dealt(1, 4, 0), 8);
        z.restart();
        due("ahead of any, again", z.dealt(0, 0, 0), MIN);
    }

    private static int checkByDivision(int[] bytes) {
        StringBuilder bits = new StringBuilder();
        for (int i = 1; i < bytes.length; i++) {
            if (i != 3) {
                for (int j = 7; j >= 0; j--) {
                    bits.append((bytes[i] >> j) & 1);
                }
            }
        }
        // the 15 that c begins with is xored to the first eight bits; the rest of the division by 285
        char[] row = (bits + "00000000").toCharArray();
        for (int i = 0; i < 8; i++) {
            row[i] ^= (char) ((15 >> (7 - i)) & 1);
        }
        for (int i = 0; i < bits.length(); i++) {
            if (row[i] == '1') {
                for (int j = 0; j < 9; j++) {
                    row[i + j] ^= (char) ((285 >> (8 - j)) & 1);
                }
            }
        }
        return Integer.parseInt(new String(row, bits.length(), 8), 2);
    }

    private static void p13Code() {
        HeadsetBands x = smallCoded();
        int[] bytes = {156, 192, 40, 0, 127, 0x44, 0x46, 0x87, 0x46, 0, 0, 0, 6, 0xa6, 5, 0x91, 0x55, 0x15, 0x51};
        bytes[3] = checkByDivision(bytes);
        due("code(-1)", x.code(-1), bytes.length);
        for (int i = 0; i < bytes.length; i++) {
            due("code(" + i + ")", x.code(i), bytes[i]);
        }
        due("code(19)", x.code(19), NONE);
        due("code(-2)", x.code(-2), NONE);
        due("ahead of any", small().code(-1), NONE);
        due("ahead of any, a byte", small().code(0), NONE);
        x.run(256);
        due("number of the frame modulo 64", x.code(1), 192);
        x.run(4);
        due("the next number", x.code(1), 193);
        HeadsetBands y = small();
        y.sets(1, 2);
        y.run(1);
        due("bits of one band alone: 8 of them", y.code(-1), 14);
        y.sets(1, 3);
        y.sets(2, 0);
        y.run(4);
        due("12 bits, filled with 0", y.code(-1), 15);
        due("four zeros", y.code(14) % 16, 0);
    }

    private static void p14DealtBy() {
        HeadsetBands x = smallCoded();
        due("dealtBy(2, 0, 0, 4)", x.dealtBy(2, 0, 0, 4), 2);
        due("dealtBy(2, 0, 0, 5)", x.dealtBy(2, 0, 0, 5), 0);
        due("one left: passed over", x.dealtBy(3, 0, 0, 5), 0);
        due("one left: to one that has", x.dealtBy(3, 0, 0, 4), 3);
        int[] full = {4, 4, 4, 6, 8, 7, 4, 6};
        for (int b = 0; b < 8; b++) {
            due("dealtBy(128, 0, 0, " + b + ")", x.dealtBy(128, 0, 0, b), full[b]);
            due("dealtBy(128, 0, 1, " + b + ")", x.dealtBy(128, 0, 1, b), b == 7 ? 6 : 0);
        }
        due("need 1 gets two", x.dealtBy(128, 1, 0, 2), 2);
        x.loud(2, -4);
        due("LOUD as it is", x.dealtBy(128, 1, 0, 2), 4);
        due("as coded stays", x.dealt(0, 2, 2), 2);
        int[][] others = {{1, 0, 0, 0}, {129, 0, 0, 0}, {2, -1, 0, 0}, {2, 2, 0, 0}, {2, 0, -1, 0}, {2, 0, 2, 0},
            {2, 0, 0, -1}, {2, 0, 0, 8}};
        for (int[] o : others) {
            due("dealtBy of others", x.dealtBy(o[0], o[1], o[2], o[3]), NONE);
        }
        due("ahead of any", small().dealtBy(2, 0, 0, 0), NONE);
    }

    private static void p15Cost() {
        HeadsetBands x = smallCoded();
        due("cost(40, 1)", x.cost(40, 1), 258);
        due("cost(12, 1)", x.cost(12, 1), 258);
        due("cost(128, 1)", x.cost(128, 1), 258);
        x.loud(7, 8);
        x.loud(4, 8);
        due("band 4 without bits", x.cost(40, 1), 258 - 132 + 153 + 144 + 127 + 128);
        due("cost(1, 1)", x.cost(1, 1), NONE);
        due("cost(129, 1)", x.cost(129, 1), NONE);
        due("cost(40, 2)", x.cost(40, 2), NONE);
        due("cost(40, -1)", x.cost(40, -1), NONE);
        due("ahead of any", small().cost(40, 1), NONE);
    }

    private static void p16Least() {
        HeadsetBands x = smallCoded();
        due("least(1, 258)", x.least(1, 258), 12);
        due("least(1, 257)", x.least(1, 257), NONE);
        due("least(0, huge)", x.least(0, Integer.MAX_VALUE), 2);
        due("least(0, -1)", x.least(0, -1), NONE);
        for (int cost = 0; cost < 900; cost += 37) {
            x = smallCoded();
            int by = NONE;
            for (int pool = 128; pool >= 2; pool--) {
                by = x.cost(pool, 0) <= cost ? pool : by;
            }
            due("least(0, " + cost + ")", x.least(0, cost), by);
        }
        HeadsetBands y = new HeadsetBands();
        y.tone(0, 13, 2000, 500);
        y.tone(1, 29, 2000, 500);
        y.run(1);
        due("all of POOL is worth it", y.cost(128, 0) < y.cost(127, 0), true);
        due("least of what 128 alone can", y.least(0, y.cost(128, 0)), 128);
        due("least(2, 9)", x.least(2, 999999), NONE);
        due("least(-1, 9)", x.least(-1, 999999), NONE);
        due("ahead of any", small().least(0, 999999), NONE);
    }

    private static void p17Coded() {
        HeadsetBands x = smallCoded();
        due("coded(40, 1, 1, 0)", x.coded(40, 1, 1, 0), 19);
        due("coded(40, 1, 1, 1)", x.coded(40, 1, 1, 1), 127);
        due("coded(40, 1, 1, 2)", x.coded(40, 1, 1, 2), 452);
        due("coded(40, 1, 1, 3)", x.coded(40, 1, 1, 3), 44);
        due("coded(40, 1, 0, 0)", x.coded(40, 1, 0, 0), 25);
        due("coded(40, 1, 0, 1)", x.coded(40, 1, 0, 1), 0);
        due("coded(40, 1, 0, 2)", x.coded(40, 1, 0, 2), 452);
        due("coded(128, 0, 1, 0)", x.coded(128, 0, 1, 0), 13 + 25);
        due("coded(3, 0, 1, 0)", x.coded(3, 0, 1, 0), 15);
        int[][] others = {{1, 1, 1, 0}, {129, 1, 1, 0}, {40, -1, 1, 0}, {40, 2, 1, 0}, {40, 1, -1, 0}, {40, 1, 2, 0},
            {40, 1, 1, -1}, {40, 1, 1, 4}};
        for (int[] o : others) {
            due("coded of others", x.coded(o[0], o[1], o[2], o[3]), NONE);
        }
        due("ahead of any", small().coded(40, 1, 1, 0), NONE);
        HeadsetBands y = ran(41);
        due("as it was coded: bytes", y.coded(40, 1, 1, 0), y.code(-1));
        due("as it was coded: twins", y.coded(40, 1, 1, 1), y.code(4));
    }

    private static void p18Worst() {
        HeadsetBands x = smallCoded();
        due("worst(40, 1, 0)", x.worst(40, 1, 0), 4);
        due("worst(40, 1, 1)", x.worst(40, 1, 1), 132);
        x.loud(0, -4);
        x.loud(1, -4);
        x.loud(4, -4);
        x.loud(5, -4);
        due("the first of like ones", x.worst(128, 1, 0), 7);
        due("as much in 15", x.worst(128, 1, 1), 32);
        for (int b = 0; b < 8; b++) {
            x.loud(b, b == 1 ? 8 : -4);
        }
        due("band 1", x.worst(128, 1, 0), 1);
        due("all that is there", x.worst(128, 1, 1), 18);
        due("worst(1, 1, 0)", x.worst(1, 1, 0), NONE);
        due("worst(129, 1, 0)", x.worst(129, 1, 0), NONE);
        due("worst(40, 2, 0)", x.worst(40, 2, 0), NONE);
        due("worst(40, -1, 0)", x.worst(40, -1, 0), NONE);
        due("worst(40, 1, 2)", x.worst(40, 1, 2), NONE);
        due("worst(40, 1, -1)", x.worst(40, 1, -1), NONE);
        due("ahead of any", small().worst(40, 1, 0), NONE);
        HeadsetBands y = new HeadsetBands();
        y.tone(0, 2, 0, 0);
        y.run(1);
        due("channel 1: 8 and the band", y.worst(2, 0, 0) >= 8, true);
    }

    private static void p19Paired() {
        HeadsetBands x = smallCoded();
        due("paired(0, 0)", x.paired(0, 0), 30);
        due("paired(0, 1)", x.paired(0, 1), 15);
        due("paired(7, 0)", x.paired(7, 0), 64);
        due("paired(7, 1)", x.paired(7, 1), 32);
        due("paired(-1, 0)", x.paired(-1, 0), NONE);
        due("paired(8, 0)", x.paired(8, 0), NONE);
        due("paired(0, 2)", x.paired(0, 2), NONE);
        due("paired(0, -1)", x.paired(0, -1), NONE);
        due("ahead of any", small().paired(0, 0), NONE);
        HeadsetBands y = small();
        y.tone(1, 2, 0, 0);
        y.run(1);
        due("one channel silent: apart", y.paired(0, 0), 15);
        due("one channel silent: middle downwards, and side", y.paired(0, 1), 15 + 5 + 1 + 1 + 0);
        due("not TWINNED then", y.code(4), 0);
    }

    private static void p20Share() {
        HeadsetBands x = smallCoded();
        due("share(0)", x.share(0), 12);
        due("share(1)", x.share(1), 0);
        due("share(-1)", x.share(-1), 12);
        due("share(2)", x.share(2), NONE);
        due("share(-2)", x.share(-2), NONE);
        due("ahead of any", small().share(0), NONE);
        HeadsetBands y = ran(1);
        due("all of POOL", y.share(-1), 40);
        due("both together", y.share(0) + y.share(1), 40);
    }

    private static void p21Damaged() {
        HeadsetBands x = smallCoded();
        due("a bit of byte 0", x.damaged(7, NONE), 0);
        due("the first bit", x.damaged(0, NONE), 0);
        due("byte 0 comes first", x.damaged(151, 0), 0);
        for (int bit = 8; bit < 152; bit++) {
            due("one bit " + bit, x.damaged(bit, NONE), 1);
        }
        due("damaged(152, -1)", x.damaged(152, NONE), NONE);
        due("damaged(-1, -1)", x.damaged(-1, NONE), NONE);
        due("damaged(-1, 3)", x.damaged(-1, 3), NONE);
        due("damaged(8, 8)", x.damaged(8, 8), NONE);
        due("damaged(8, -2)", x.damaged(8, -2), NONE);
        due("damaged(8, 152)", x.damaged(8, 152), NONE);
        due("ahead of any", small().damaged(8, NONE), NONE);
        // a last bit changes CHECK by 29: bits 27, 28, 29 and 31 of the CHECK byte, never by one alone
        due("last bit and one of CHECK", x.damaged(151, 31), 1);
        HeadsetBands y = new HeadsetBands();
        y.sets(1, 128);
        y.sets(2, 0);
        y.tone(0, 13, 2000, 500);
        y.tone(1, 29, 2000, 500);
        y.run(1);
        due("616 bits", y.code(-1), 77);
        for (int other = 33; other < 400; other++) {
            due("bits 32 and " + other, y.damaged(32, other), other == 32 + 255 ? 2 : 1);
        }
        for (int apart : new int[] {254, 255, 256, 509, 510, 511}) {
            due(apart + " apart", y.damaged(100, 100 + apart), apart % 255 == 0 ? 2 : 1);
            due(apart + " apart, the other way", y.damaged(100 + apart, 100), apart % 255 == 0 ? 2 : 1);
        }
    }

    private static void p22Heard() {
        HeadsetBands x = small();
        x.run(8);
        int[] samples = {-51, 60, -98, 66, -86, 72, -74, 78};
        for (int i = 0; i < samples.length; i++) {
            due("heard(0, " + (31 - i) + ")", x.heard(0, 31 - i), samples[i]);
            due("heard(1, " + (31 - i) + ")", x.heard(1, 31 - i), samples[i]);
        }
        due("ahead of any", x.heard(0, 32), 0);
        due("heard(0, 191)", x.heard(0, 191), 0);
        due("heard(0, 192)", x.heard(0, 192), MIN);
        due("heard(0, -1)", x.heard(0, -1), MIN);
        due("heard(-1, 0)", x.heard(-1, 0), MIN);
        due("heard(2, 0)", x.heard(2, 0), MIN);
        x.run(20);
        due("five frames later", x.heard(0, 191), -51);
        x.run(4);
        due("kept no more", x.heard(0, 191) != -51, true);
    }

    private static void p23Spectrum() {
        HeadsetBands x = small();
        due("of silence", x.spectrum(0, 4), 0);
        // without losses in quantising the last 32 samples are those of the source, and split likewise
        x.sets(2, 0);
        x.sets(1, 128);
        x.tone(0, 2, 0, 0);
        x.tone(1, 2, 64, 0);
        x.run(60);
        for (int b = 0; b < 8; b++) {
            due("of silence " + b, x.spectrum(0, b), 0);
        }
        PlainModel m = new PlainModel();
        m.sets(2, 0);
        m.sets(1, 128);
        m.tone(0, 2, 0, 0);
        m.tone(1, 2, 64, 0);
        m.run(60);
        for (int b = 0; b < 8; b++) {
            due("spectrum(1, " + b + ")", x.spectrum(1, b), m.spectrum(1, b));
        }
        due("mostly the band of a quick change", x.spectrum(1, 4) > 300, true);
        due("spectrum(-1, 0)", x.spectrum(-1, 0), MIN);
        due("spectrum(2, 0)", x.spectrum(2, 0), MIN);
        due("spectrum(0, -1)", x.spectrum(0, -1), MIN);
        due("spectrum(0, 8)", x.spectrum(0, 8), MIN);
    }

    private static void p24MadeUp() {
        HeadsetBands x = new HeadsetBands();
        due("madeUp(0, 0)", x.madeUp(0, 0), 16);
        due("madeUp(0, 33)", x.madeUp(0, 33), 0);
        due("madeUp(0, 34)", x.madeUp(0, 34), MIN);
        due("madeUp(0, -1)", x.madeUp(0, -1), MIN);
        due("madeUp(-1, 0)", x.madeUp(-1, 0), MIN);
        due("madeUp(2, 0)", x.madeUp(2, 0), MIN);
        Story story = new Story().when(0, z -> {
            z.sets(2, 0);
            z.sets(1, 128);
            z.sets(8, 80);
        }).when(100, z -> z.burst(99));
        x = story.at(100);
        due("LAG near the period", Math.abs(x.madeUp(0, 0) - 40) <= 1 || x.madeUp(0, 0) % 40 <= 1, true);
        int lag = x.madeUp(1, 0);
        int sum = 0;
        for (int i = 0; i < 32; i++) {
            sum += Math.abs(x.heard(1, i) - x.heard(1, i + lag));
        }
        due("its sum", x.madeUp(1, 1), sum);
        due("SAMPLE 0", x.madeUp(1, 2), x.heard(1, lag - 1));
        int slots = 100;
        for (int tries = 0; tries < Checks.TRIES && story.at(slots + 1).count(14) == 0; tries++) {
            slots++;
        }
        x = story.at(slots);
        int[] told = new int[32];
        for (int i = 0; i < 32; i++) {
            told[i] = x.madeUp(1, 2 + i);
        }
        x.run(1);
        for (int i = 0; i < 32; i++) {
            due("made up as told " + i, x.heard(1, 31 - i), told[i]);
        }
        int plain = x.heard(1, x.madeUp(1, 0) - 1);
        due("FADE 7 next", x.madeUp(1, 2), Math.floorDiv(plain * 7, 8));
        // a lag below 32 goes on with what is made up itself
        HeadsetBands y = new HeadsetBands();
        y.tone(0, 16, 1000, 0);
        y.tone(1, 16, 1000, 0);
        y.run(100);
        due("LAG 16", y.madeUp(0, 0), 16);
        due("nothing off", y.madeUp(0, 1), 0);
        due("SAMPLE 16 is SAMPLE 0", y.madeUp(0, 18), y.madeUp(0, 2));
        due("SAMPLE 31 is SAMPLE 15", y.madeUp(0, 33), y.heard(0, 0));
    }

    private static void p25Line() {
        HeadsetBands x = small();
        x.sets(8, 10);
        x.burst(99);
        due("line(0, 0) of none", x.line(0, 0), NONE);
        x.run(5);
        due("line(0, 0)", x.line(0, 0), 0);
        due("line(0, 1)", x.line(0, 1), 5);
        due("line(0, 2)", x.line(0, 2), 8);
        due("line(0, 3)", x.line(0, 3), 2);
        due("line(0, 4)", x.line(0, 4), 0);
        due("line(1, 0)", x.line(1, 0), 1);
        due("line(1, 1)", x.line(1, 1), 0);
        due("line(1, 2)", x.line(1, 2), 12);
        due("line(2, 0)", x.line(2, 0), NONE);
        due("line(-1, 0)", x.line(-1, 0), NONE);
        due("line(0, 5)", x.line(0, 5), NONE);
        due("line(0, -1)", x.line(0, -1), NONE);
        x.burst(0);
        x.sets(8, 80);
        x.run(1);
        due("one piece came over", x.line(0, 4), 1);
        due("pieces of the size as coded", x.line(0, 3), 2);
        x.sets(4, 16);
        due("DEADLINE as it is", x.line(0, 2), 16);
        x.run(1);
        due("0 went", x.line(0, 0), 1);
        x.run(2);
        due("2 arrived at once", x.line(0, 0), 2);
    }

    private static void p26Packet() {
        HeadsetBands x = small();
        x.burst(9);
        due("not made yet", x.packet(0, 0), 0);
        due("none sent", x.packet(0, 1), 0);
        due("not played", x.packet(0, 2), 0);
        x.run(8);
        due("in line", x.packet(0, 0), 1);
        due("sent eight times", x.packet(0, 1), 8);
        x.run(1);
        due("given up", x.packet(0, 0), 3);
        due("never arrived", x.packet(0, 3), NONE);
        x.run(1);
        due("packet 1 arrived", x.packet(1, 0), 2);
        due("at slot", x.packet(1, 3), 9);
        due("sent twice", x.packet(1, 1), 2);
        x.run(11);
        due("frame 0 made up", x.packet(0, 2), 2);
        due("frame 1 by code", x.packet(1, 2), 1);
        due("frame 4 not yet", x.packet(4, 2), 0);
        due("packet(-1, 0)", x.packet(-1, 0), NONE);
        due("packet(2500, 0)", x.packet(2500, 0), NONE);
        due("packet(0, 4)", x.packet(0, 4), NONE);
        due("packet(0, -1)", x.packet(0, -1), NONE);
        due("packet(2499, 0)", x.packet(2499, 0), 0);
        // arrives, but its frame was made up already
        HeadsetBands y = small();
        y.sets(7, 1);
        y.sets(4, 16);
        y.run(1);
        y.burst(6);
        y.run(10);
        due("1 made up", y.packet(1, 2), 2);
        due("1 arrived", y.packet(1, 0), 2);
        due("late", y.packet(1, 3), 10);
    }

    private static void p27Played() {
        HeadsetBands x = small();
        due("none yet", x.played(0, 0), MIN);
        x.run(8);
        int[] first = {0, 1, 2, 0, MIN, 8, 7};
        for (int what = 0; what < 7; what++) {
            if (what != 4) {
                due("played(0, " + what + ")", x.played(0, what), first[what]);
            }
        }
        int sum = 0;
        for (int c = 0; c < 2; c++) {
            for (int i = 0; i < 32; i++) {
                sum += Math.abs(x.heard(c, 31 - i) - x.source(c, i));
            }
        }
        due("played(0, 4)", x.played(0, 4), sum);
        due("played(1, 0)", x.played(1, 0), MIN);
        due("played(-1, 0)", x.played(-1, 0), MIN);
        due("played(0, 7)", x.played(0, 7), MIN);
        due("played(0, -1)", x.played(0, -1), MIN);
        x.burst(99);
        x.run(62);
        for (int i = 0; i < 20 && x.count(7) < 17; i++) {
            x.run(1);
        }
        due("seventeen", x.count(7), 17);
        due("played(15, 0)", x.played(15, 0), 1);
        due("played(16, 0)", x.played(16, 0), MIN);
        for (int ago = 0; ago < 15; ago++) {
            due("made up " + ago, x.played(ago, 1), 2);
            due("FADE " + ago, x.played(ago, 5), Math.max(0, 8 - (14 - ago)));
        }
        due("differences of one made up", x.played(0, 4) > 0, true);
        due("ahead of it by code", x.played(15, 1) * 10 + x.played(15, 5), 18);
        due("slots apart", x.played(0, 6) - x.played(1, 6) >= 3, true);
        HeadsetBands y = small();
        y.sets(7, 6);
        y.run(20);
        y.sets(7, 1);
        y.run(33);
        due("eight played", y.count(7), 8);
        due("TRIM ahead of what is changed behind it", y.played(0, 3), 0);
        due("TRIM changed", y.count(10) != 0, true);
        int trim = y.count(10);
        y.run(4);
        due("TRIM of the ninth", y.played(0, 3), trim);
        // the source as it is when it is played
        HeadsetBands z = small();
        z.run(7);
        z.tone(0, 40, 1500, 0);
        z.run(1);
        int off = 0;
        for (int c = 0; c < 2; c++) {
            for (int i = 0; i < 32; i++) {
                off += Math.abs(z.heard(c, 31 - i) - z.source(c, i));
            }
        }
        due("source as it was when played", z.played(0, 4), off);
        due("count(17)", z.count(17), off);
    }

    private static void p28Late() {
        HeadsetBands x = small();
        for (int what = -1; what < 5; what++) {
            due("without any", x.late(what), MIN);
        }
        x.run(8);
        due("late(0)", x.late(0), 7);
        due("late(1)", x.late(1), 7);
        due("late(2)", x.late(2), 0);
        due("late(3)", x.late(3), 0);
        due("late(4)", x.late(4), MIN);
        due("late(-1)", x.late(-1), MIN);
        x.sets(6, -50);
        x.burst(20);
        x.run(150);
        int least = Integer.MAX_VALUE;
        int most = MIN;
        int changes = 0;
        int made = 0;
        for (int ago = 0; ago < 16; ago++) {
            int late = x.played(ago, 6) - 4 * x.played(ago, 0);
            least = Math.min(least, late);
            most = Math.max(most, late);
            changes += ago < 15 ? Math.abs(late - (x.played(ago + 1, 6) - 4 * x.played(ago + 1, 0))) : 0;
            made += x.played(ago, 1) == 2 ? 1 : 0;
        }
        due("least", x.late(0), least);
        due("greatest", x.late(1), most);
        due("changes", x.late(2), changes);
        due("made up", x.late(3), made);
    }

    private static void p29Delays() {
        HeadsetBands x = small();
        x.run(1);
        due("delays(0, 0)", x.delays(0, 0), 1);
        x.burst(3);
        x.run(7);
        due("delays(3, 0)", x.delays(3, 0), 1);
        due("delays(0, 1)", x.delays(0, 1), 1);
        due("delays(2, 1)", x.delays(2, 1), 1);
        due("delays(3, 1)", x.delays(3, 1), 0);
        due("delays(15, 0)", x.delays(15, 0), 0);
        due("delays(16, 0)", x.delays(16, 0), NONE);
        due("delays(-1, 0)", x.delays(-1, 0), NONE);
        due("delays(0, 2)", x.delays(0, 2), NONE);
        due("delays(0, -1)", x.delays(0, -1), NONE);
        HeadsetBands y = small();
        y.sets(4, 16);
        y.burst(15);
        y.run(16);
        due("the longest", y.delays(15, 0), 1);
        due("more than 14", y.delays(14, 1), 1);
    }

    private static void p30Would() {
        HeadsetBands x = new HeadsetBands();
        x.sets(5, 25);
        x.sets(10, 150);
        x.sets(9, 1);
        x.run(50);
        int[] would = new int[50];
        for (int what = -1; what < 49; what++) {
            would[what + 1] = x.would(100, what);
        }
        due("nothing happened", x.count(0), 50);
        x.run(100);
        for (int what = -1; what < 49; what++) {
            due("would(100, " + what + ")", would[what + 1], x.count(what));
        }
        due("would(0, 0)", x.would(0, 0), MIN);
        due("would(101, 0)", x.would(101, 0), MIN);
        due("would(1, 37)", x.would(1, 37), MIN);
        due("would(1, 48)", x.would(1, 48), MIN);
        due("would(1, 0)", x.would(1, 0), 151);
        HeadsetBands y = small();
        for (int i = 0; i < 24; i++) {
            y.run(400);
        }
        y.run(399);
        due("to the last slot", y.would(1, 0), 10000);
        due("beyond it", y.would(2, 0), MIN);
    }

    private static void p31Count() {
        HeadsetBands x = small();
        x.run(8);
        int[] want = {8, 2, 2, 2, 0, 0, 1, 1, 1, 0, 0, 0, 2, 1, 0, 0, 0};
        for (int what = 0; what < want.length; what++) {
            due("count(" + what + ")", x.count(what), want[what]);
        }
        due("bytes of all codes", x.count(19), 19 + x.code(-1));
        due("pieces that came over", x.count(32), 2);
        due("idle slots", x.count(35), 6);
        int most = 0;
        for (int i = 0; i < 32; i++) {
            most = Math.max(most, Math.abs(x.heard(0, 31 - i) - x.source(0, i)));
        }
        due("the greatest difference", x.count(18), most);
        due("count(17)", x.count(17), x.played(0, 4));
        int[] others = {-1, 37, 38, 39, 48, 49, 100};
        for (int what : others) {
            due("count(" + what + ")", x.count(what), MIN);
        }
        int off = x.count(17);
        x.burst(99);
        x.run(32);
        due("made up", x.count(14), 6);
        due("just now", x.count(15), 6);
        due("frame 1 counts, those made up do not", x.count(17), off + x.played(6, 4));
        x.burst(0);
        x.run(30);
        due("none just now", x.count(15), 0);
        due("the most so far", x.count(16) >= 6, true);
        // center 6 reached late, then 2: FILL of eight is 48, e is 32, TRIM (128 and 32) by 8
        HeadsetBands y = small();
        y.sets(7, 6);
        y.run(21);
        y.sets(7, 2);
        due("begun", y.count(8) * 10000 + y.count(9), 11000);
        y.run(31);
        int fill = y.count(12);
        int played = y.count(7);
        int hold = y.count(11);
        due("eight played", played, 8);
        due("FILL anew", fill, 0);
        due("HOLD", hold, 32);
        due("TRIM", y.count(10), 20);
    }

    /** SEED 1: the first DRAW is 840, the second 52,840, the third 33,599. */
    private static void draws() {
        HeadsetBands x = small();
        x.sets(5, 40);
        x.run(1);
        due("40 is not below 40", x.packet(0, 0), 2);
        HeadsetBands y = small();
        y.sets(5, 41);
        y.run(1);
        due("40 is below 41", y.packet(0, 0), 1);
        HeadsetBands z = small();
        z.sets(10, 840);
        z.run(1);
        due("840 is not below 840", z.count(33) * 10 + z.packet(0, 0), 2);
        HeadsetBands v = small();
        v.sets(10, 841);
        v.run(1);
        due("damaged in bit 7", v.count(33), 1);
        due("broken", v.count(34), 1);
        due("came over", v.count(32), 1);
        due("stays in line", v.packet(0, 0), 1);
        due("to be sent anew", v.line(0, 4), 0);
        due("the code is whole", v.code(0), 156);
        v.sets(10, 0);
        v.run(1);
        due("arrives behind it", v.packet(0, 3), 1);
        HeadsetBands w = small();
        w.sets(5, 40);
        w.run(3);
        w.sets(0, 1);
        w.run(2);
        due("SEED told anew: 840 again", w.packet(1, 3), 4);
    }

    /** With ERRORS 1 a DRAW is made for each piece that comes over, also if it damages none. */
    private static void drawsOfErrors() {
        for (int errors = 0; errors < 2; errors++) {
            HeadsetBands x = small();
            x.sets(10, errors);
            x.run(4);
            x.sets(5, 41);
            x.run(1);
            due("second or third draw", x.packet(1, 0), errors == 0 ? 1 : 2);
        }
    }

    private static void silence() {
        HeadsetBands x = new HeadsetBands();
        x.tone(0, 2, 0, 0);
        x.tone(1, 2, 0, 0);
        x.run(40);
        due("no bits", x.share(-1), 0);
        due("the head alone", x.code(-1), 13);
        due("no twins: not less", x.code(4), 0);
        due("nothing off", x.coded(40, 1, 1, 3), 0);
        due("nothing off of what is heard", x.count(18), 0);
        due("all by code", x.count(13), x.count(7));
        due("worst is the first", x.worst(40, 0, 0), 0);
        due("least", x.least(0, 0), 2);
    }

    private static void steered() {
        HeadsetBands x = new HeadsetBands();
        x.sets(9, 1);
        x.sets(5, 100);
        x.run(28);
        due("seven coded", x.count(31), 40);
        x.run(1);
        due("three quarters", x.count(31), 30);
        x.run(32);
        due("and again", x.count(31), 22);
        x.sets(5, 0);
        x.run(31);
        due("not yet", x.count(31), 22);
        x.run(1);
        due("one was given up at slot 60, behind the coding", x.count(31), 16);
        x.run(32);
        due("two more", x.count(31), 18);
        due("coded by it", x.code(2), 16);
        x.run(4);
        due("coded by it", x.code(2), 18);
        x.sets(1, 19);
        due("POOL at once", x.count(31), 19);
        x.run(32 * 3);
        due("POOL at most", x.count(31), 19);
        x.sets(1, 3);
        x.sets(5, 100);
        x.run(64);
        due("2 at least", x.count(31), 2);
        x.sets(9, 0);
        due("POOL without steering", x.count(31), 3);
        // only what was given up since the eighth one ahead counts, also if STEERED was 0 then
        HeadsetBands y = new HeadsetBands();
        y.sets(5, 100);
        y.run(12);
        y.sets(5, 0);
        y.run(18);
        y.sets(9, 1);
        y.sets(1, 50);
        y.run(31);
        due("given up ahead of the eighth is forgotten", y.count(31), 50);
    }

    private static void fullBuffer() {
        HeadsetBands x = small();
        x.sets(9, 1);
        x.burst(99);
        x.run(99);
        x.burst(21);
        x.run(21);
        due("not begun", x.count(8), 0);
        x.run(48);
        due("full", x.count(6), 12);
        int first = 0;
        for (int tries = 0; tries < Checks.TRIES && x.packet(first, 0) != 2; tries++) {
            first++;
        }
        due("the twelfth arrived", x.packet(first + 11, 0), 2);
        due("the thirteenth is given up", x.packet(first + 12, 0), 3);
        due("it has no slot", x.packet(first + 12, 3), NONE);
        due("but was sent", x.packet(first + 12, 1), 1);
        int given = x.count(4);
        int used = x.count(31);
        x.run(32);
        due("eight more given up", x.count(4) - given, 8);
        x.run(32);
        due("no reason to steer", x.count(31) > used, true);
        due("made up till then", x.count(14), x.count(7));
    }
}
