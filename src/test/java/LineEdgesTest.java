/** Terms II up to the player, sentence by sentence: coding, pieces, deadlines, losses, errors, steering, draws. */
public final class LineEdgesTest {
    private static final int NONE = Checks.NONE;
    private static final Checks CHECKS = new Checks();

    public static void main(String[] args) {
        framesAtEachFourthSlot();
        sourceAsItIsThen();
        lastPieceMayBeShorter();
        piecesOfTheSizeAsCoded();
        deadlineNotAboveTheSlot();
        newOneStandsInLineFirst();
        severalAreGivenUpAtOnce();
        deadlineIsAsItIsNow();
        slotsWithoutAnyInLine();
        lossBelow();
        lostPieceIsTheNextAgain();
        burstOfPieces();
        burstDrawsNothing();
        drawsOfSeeds();
        seedToldAnew();
        drawsOfOnePiece();
        errorsBelow();
        bitOfThePiece();
        brokenWithItsLastPiece();
        brokenStaysWhereItIs();
        playedAlreadyIsOfNoUse();
        levelTwelve();
        inUseAtOnce();
        threeQuarters();
        twoMore();
        givenUpSinceTheEighthAhead();
        givenUpAtLevelTwelveDoesNotSteer();
        steeredNoMore();
        CHECKS.end();
    }

    private static void due(String what, long got, long want) {
        CHECKS.due(what, got, want);
    }

    /** One PIECE a FRAME: 19 bytes the first, 14 each other one. */
    private static HeadsetBands small() {
        HeadsetBands x = new HeadsetBands();
        x.tone(0, 2, 64, 0);
        x.tone(1, 2, 64, 0);
        return x;
    }

    /** 13 bytes a FRAME. */
    private static HeadsetBands silent() {
        HeadsetBands x = new HeadsetBands();
        x.tone(0, 2, 0, 0);
        x.tone(1, 2, 0, 0);
        return x;
    }

    /** 77 bytes a FRAME, eight PIECES of 10: one is SENT at each SLOT. */
    private static HeadsetBands broad() {
        HeadsetBands x = new HeadsetBands();
        x.tone(0, 13, 2000, 500);
        x.tone(1, 29, 2000, 500);
        x.sets(1, 128);
        x.sets(2, 0);
        x.sets(4, 16);
        x.sets(8, 10);
        return x;
    }

    /** The n-th DRAW (1 on) by a SEED. */
    private static int drawn(long seed, int n) {
        long s = seed;
        for (int i = 0; i < n; i++) {
            s = (1103 * s + 12345) % 1000003;
        }
        return (int) (s / 16);
    }

    /** The next DRAW by LOSS modulo 100, found by halving: a PIECE must be in line then. */
    private static int nextDraw(HeadsetBands x) {
        int over = x.count(32);
        int low = 0;
        int high = 99;
        x.keep(1);
        while (low < high) {
            int loss = (low + high + 1) / 2;
            x.sets(5, loss);
            x.run(1);
            if (x.count(32) > over) {
                low = loss;
            } else {
                high = loss - 1;
            }
            x.again(1);
        }
        return low;
    }

    // "if it is 4 k, FRAME k is coded (NUMBER k ..)"
    private static void framesAtEachFourthSlot() {
        HeadsetBands x = small();
        due("coded ahead of SLOT 0", x.count(1), 0);
        for (int slot = 0; slot < 13; slot++) {
            x.run(1);
            due("coded behind SLOT " + slot, x.count(1), slot / 4 + 1);
            due("its number", x.code(1) % 64, slot / 4);
            due("packet in line or arrived", x.packet(slot / 4, 0), 2);
            due("not made yet", x.packet(slot / 4 + 1, 0), 0);
        }
    }

    // "the SOURCE as it is then"
    private static void sourceAsItIsThen() {
        HeadsetBands x = small();
        x.run(3);
        x.tone(0, 2, 0, 0);
        x.run(1);
        due("FRAME 0 stays", x.band(0, 4, 0, 0), -153);
        x.run(1);
        due("FRAME 1 is coded of the new SOURCE", x.band(0, 4, 0, 0), 25);
        x.tone(0, 2, 2000, 0);
        due("FRAME 1 stays", x.band(0, 4, 0, 0), 25);
    }

    // "in PIECES of PIECE bytes of its CODE (the last one may be shorter)"
    private static void lastPieceMayBeShorter() {
        int[][] of13 = {{10, 2}, {12, 2}, {13, 1}, {14, 1}, {80, 1}};
        int[][] of19 = {{10, 2}, {18, 2}, {19, 1}, {20, 1}, {80, 1}};
        int[][] of77 = {{10, 8}, {11, 7}, {12, 7}, {25, 4}, {26, 3}, {38, 3}, {39, 2}, {76, 2}, {77, 1}, {78, 1}, {80, 1}};
        for (int[] p : of13) {
            pieces(silent(), 13, p[0], p[1]);
        }
        for (int[] p : of19) {
            pieces(small(), 19, p[0], p[1]);
        }
        for (int[] p : of77) {
            pieces(broad(), 77, p[0], p[1]);
        }
    }

    private static void pieces(HeadsetBands x, int bytes, int piece, int want) {
        x.sets(8, piece);
        x.burst(1);
        x.run(1);
        String told = bytes + " bytes by " + piece;
        due(told + ": bytes", x.code(NONE), bytes);
        due(told + ": PIECES", x.line(0, 3), want);
        x.run(want);
        due(told + ": ARRIVED", x.packet(0, 3), want);
        due(told + ": came over", x.count(32), want);
        due(told + ": SENT", x.packet(0, 1), want + 1);
    }

    // "PIECES of a PACKET are of the size as when it was coded"
    private static void piecesOfTheSizeAsCoded() {
        HeadsetBands x = broad();
        x.sets(8, 80);
        x.burst(1);
        x.run(1);
        x.sets(8, 10);
        due("one PIECE still", x.line(0, 3), 1);
        x.run(1);
        due("comes over at once", x.packet(0, 3), 1);
        x.run(3);
        due("the next one has eight", x.line(0, 3), 8);
        x.sets(8, 80);
        x.run(1);
        due("and still has eight", x.line(0, 3), 8);
        due("two of them came over", x.line(0, 4), 2);
        // the ones in line have sizes of their own
        HeadsetBands y = broad();
        y.burst(99);
        for (int piece : new int[] {10, 39, 77}) {
            y.sets(8, piece);
            y.run(4);
        }
        due("eight", y.line(0, 3), 8);
        due("two", y.line(1, 3), 2);
        due("one", y.line(2, 3), 1);
    }

    // "PACKETS in line with 4 k and DEADLINE not above the SLOT go from it: GIVEN UP"
    private static void deadlineNotAboveTheSlot() {
        for (int deadline = 1; deadline <= 16; deadline++) {
            HeadsetBands x = small();
            x.sets(4, deadline);
            x.burst(99);
            x.run(deadline);
            due("in line ahead of SLOT " + deadline, x.packet(0, 0), 1);
            due("the SLOT at which it would be GIVEN UP", x.line(0, 2), deadline);
            due("SENT at each", x.packet(0, 1), deadline);
            due("none GIVEN UP yet", x.count(4), 0);
            x.run(1);
            due("GIVEN UP at SLOT " + deadline, x.packet(0, 0), 3);
            due("not SENT any more", x.packet(0, 1), deadline);
            due("one GIVEN UP", x.count(4), 1);
            due("no SLOT of arrival", x.packet(0, 3), NONE);
            due("not the first in line", x.line(0, 0), deadline < 4 ? NONE : 1);
            HeadsetBands y = small();
            y.sets(4, deadline);
            y.burst(deadline - 1);
            y.run(deadline);
            due("ARRIVED at the last SLOT", y.packet(0, 3), deadline - 1);
            due("its delay", y.delays(deadline - 1, 0), 1);
            HeadsetBands z = small();
            z.sets(4, deadline);
            z.burst(deadline);
            z.run(deadline + 1);
            due("one more is too many", z.packet(0, 0), 3);
        }
    }

    // the order at a SLOT: the new PACKET stands behind, then those too late go, then one is SENT
    private static void newOneStandsInLineFirst() {
        HeadsetBands x = small();
        x.sets(4, 4);
        x.burst(4);
        x.run(5);
        due("0 went at SLOT 4", x.packet(0, 0), 3);
        due("1 was SENT at SLOT 4", x.packet(1, 3), 4);
        due("no SLOT without any", x.count(35), 0);
        HeadsetBands y = small();
        y.sets(4, 16);
        y.burst(99);
        y.run(16);
        due("four in line", y.count(5), 4);
        y.run(1);
        due("0 went, 4 came", y.count(5), 4);
        due("the first", y.line(0, 0), 1);
        due("the last", y.line(3, 0), 4);
        due("behind it", y.line(4, 0), NONE);
    }

    private static void severalAreGivenUpAtOnce() {
        for (int deadline = 1; deadline < 16; deadline++) {
            HeadsetBands x = small();
            x.sets(4, 16);
            x.burst(99);
            x.run(15);
            due("in line", x.count(5), 4);
            x.sets(4, deadline);
            x.run(1);
            int given = 0;
            for (int k = 0; k < 4; k++) {
                boolean late = 4 * k + deadline <= 15;
                due("PACKET " + k + " by DEADLINE " + deadline, x.packet(k, 0), late ? 3 : 1);
                given += late ? 1 : 0;
            }
            due("GIVEN UP", x.count(4), given);
            due("in line still", x.count(5), 4 - given);
            due("the first in line", x.line(0, 0), given < 4 ? given : NONE);
            due("SENT, if one is left", x.count(2), given < 4 ? 16 : 15);
        }
    }

    // "DEADLINE is as it is now"
    private static void deadlineIsAsItIsNow() {
        HeadsetBands x = small();
        x.sets(4, 3);
        x.burst(99);
        x.run(3);
        x.sets(4, 5);
        due("told anew", x.line(0, 2), 5);
        x.run(2);
        due("in line at SLOT 4", x.packet(0, 0), 1);
        x.run(1);
        due("GIVEN UP at SLOT 5", x.packet(0, 0), 3);
        due("the next one", x.line(0, 2), 9);
    }

    // count(35): "SLOTS at which no PACKET was in line to be SENT"
    private static void slotsWithoutAnyInLine() {
        HeadsetBands x = small();
        for (int slot = 0; slot < 9; slot++) {
            x.run(1);
            due("none in line up to SLOT " + slot, x.count(35), slot + 1 - (slot / 4 + 1));
        }
        HeadsetBands y = small();
        y.sets(4, 2);
        y.sets(5, 100);
        y.run(12);
        due("SENT at two SLOTS of four", y.count(2), 6);
        due("GIVEN UP ones are not in line", y.count(35), 6);
    }

    // "a DRAW modulo 100 is below LOSS"
    private static void lossBelow() {
        for (int seed : new int[] {0, 1, 2, 500, 999999}) {
            int draw = drawn(seed, 1) % 100;
            for (int loss = Math.max(0, draw - 1); loss <= Math.min(100, draw + 2); loss++) {
                HeadsetBands x = small();
                x.sets(0, seed);
                x.sets(5, loss);
                x.run(1);
                due("DRAW " + draw + " by LOSS " + loss, x.packet(0, 0), draw < loss ? 1 : 2);
                due("came over", x.count(32), draw < loss ? 0 : 1);
                due("SENT", x.count(2), 1);
            }
        }
        HeadsetBands none = small();
        none.sets(5, 0);
        none.run(400);
        due("LOSS 0: all come over", none.count(32), 100);
        HeadsetBands all = small();
        all.sets(5, 100);
        all.run(400);
        due("LOSS 100: none", all.count(32), 0);
        due("LOSS 100: all SENT", all.count(2), 400);
    }

    // "(then it is the next one again)"
    private static void lostPieceIsTheNextAgain() {
        HeadsetBands x = broad();
        x.run(3);
        due("three came over", x.line(0, 4), 3);
        x.burst(2);
        x.run(2);
        due("still three", x.line(0, 4), 3);
        due("SENT five times", x.line(0, 1), 5);
        x.run(4);
        due("seven", x.line(0, 4), 7);
        due("not yet", x.packet(0, 0), 1);
        x.run(1);
        due("the eighth", x.packet(0, 3), 9);
        due("SENT ten times", x.packet(0, 1), 10);
        due("none BROKEN", x.count(34), 0);
    }

    // "the next n (0 .. 99) PIECES SENT do not come over"
    private static void burstOfPieces() {
        for (int n : new int[] {0, 1, 2, 98, 99}) {
            HeadsetBands x = broad();
            due("none ahead", x.burst(n), 0);
            due("to come", x.count(36), n);
            x.run(n + 1);
            due("one came over behind " + n, x.count(32), 1);
            due("SENT", x.count(2), n + 1);
            due("none to come", x.count(36), 0);
        }
        HeadsetBands y = small();
        y.burst(9);
        y.run(3);
        due("those that were to come", y.burst(4), 6);
        due("the new ones alone", y.count(36), 4);
        due("none", y.burst(0), 4);
        y.run(1);
        due("comes over", y.packet(0, 3), 3);
        HeadsetBands z = small();
        z.run(1);
        z.burst(2);
        z.run(3);
        due("a SLOT without PIECE takes none", z.count(36), 2);
        z.run(1);
        due("a PIECE takes one", z.count(36), 1);
    }

    // "(one less is to come then, nothing is drawn)"
    private static void burstDrawsNothing() {
        for (int n = 0; n < 6; n++) {
            HeadsetBands x = broad();
            x.burst(n);
            x.run(n + 1);
            due("the second DRAW comes behind a BURST of " + n, nextDraw(x), drawn(1, 2) % 100);
        }
        HeadsetBands y = broad();
        y.sets(5, 100);
        y.sets(10, 1000);
        y.burst(5);
        y.run(5);
        due("with ERRORS neither", nextDraw(y), drawn(1, 1) % 100);
        due("none DAMAGED", y.count(33), 0);
    }

    // "s (first SEED) becomes (1,103 s and 12,345) modulo 1,000,003; the DRAW is s by 16"
    private static void drawsOfSeeds() {
        due("the first DRAW by SEED 1", drawn(1, 1), 840);
        due("the second", drawn(1, 2), 52840);
        due("by SEED 0", drawn(0, 1), 771);
        for (int seed : new int[] {0, 1, 15, 16, 906, 907, 65535, 999998, 999999}) {
            HeadsetBands x = broad();
            x.sets(0, seed);
            for (int n = 1; n < 9; n++) {
                if (n == 1 || n == 2 || n == 8) {
                    due("DRAW " + n + " by SEED " + seed, nextDraw(x), drawn(seed, n) % 100);
                }
                x.run(1);
            }
        }
    }

    // "(SEED told anew: s is it.)"
    private static void seedToldAnew() {
        HeadsetBands x = broad();
        x.run(5);
        due("the sixth", nextDraw(x), drawn(1, 6) % 100);
        x.sets(0, 1);
        due("the same SEED: the first again", nextDraw(x), drawn(1, 1) % 100);
        x.sets(0, 77);
        x.run(1);
        due("another one", nextDraw(x), drawn(77, 2) % 100);
        x.sets(0, 1000000);
        due("a refused one", nextDraw(x), drawn(77, 2) % 100);
        x.burst(3);
        x.restart();
        due("restart(): s is SEED", nextDraw(x), drawn(77, 1) % 100);
        due("restart(): nothing of a BURST", x.count(36), 0);
    }

    // IN FULL: LOSS (also with LOSS 0); if it comes over and ERRORS is above 0, ERRORS; if DAMAGED, the bit
    private static void drawsOfOnePiece() {
        HeadsetBands x = broad();
        x.run(1);
        due("LOSS 0, ERRORS 0: one DRAW", nextDraw(x), drawn(1, 2) % 100);
        HeadsetBands y = broad();
        y.sets(10, 1);
        y.run(1);
        due("not DAMAGED", y.count(33), 0);
        due("LOSS 0, ERRORS 1: two DRAWS", nextDraw(y), drawn(1, 3) % 100);
        HeadsetBands z = broad();
        z.sets(10, 1000);
        z.run(1);
        due("DAMAGED", z.count(33), 1);
        due("DAMAGED: three DRAWS", nextDraw(z), drawn(1, 4) % 100);
        HeadsetBands w = broad();
        w.sets(10, 1000);
        w.sets(5, 41);
        w.run(1);
        due("lost", w.count(32), 0);
        due("lost: one DRAW", nextDraw(w), drawn(1, 2) % 100);
        HeadsetBands v = small();
        v.run(4);
        due("no DRAW at a SLOT without PIECE", nextDraw(v), drawn(1, 2) % 100);
    }

    // "DAMAGED, if a DRAW modulo 1,000 is below ERRORS"
    private static void errorsBelow() {
        for (int seed : new int[] {0, 1, 2, 500, 999999}) {
            int draw = drawn(seed, 2) % 1000;
            for (int errors = Math.max(0, draw - 1); errors <= Math.min(1000, draw + 2); errors++) {
                HeadsetBands x = broad();
                x.sets(0, seed);
                x.sets(10, errors);
                x.run(1);
                due("DRAW " + draw + " by ERRORS " + errors, x.count(33), draw < errors ? 1 : 0);
                due("it comes over", x.count(32), 1);
                due("one PIECE of it", x.line(0, 4), 1);
            }
        }
        HeadsetBands none = broad();
        none.run(400);
        due("ERRORS 0: none DAMAGED", none.count(33), 0);
        HeadsetBands all = broad();
        all.sets(10, 1000);
        all.run(400);
        due("ERRORS 1,000: all DAMAGED", all.count(33), 400);
        HeadsetBands zero = broad();
        int seed = 0;
        while (drawn(seed, 2) % 1000 != 0) {
            seed++;
        }
        zero.sets(0, seed);
        zero.sets(10, 1);
        zero.run(1);
        due("0 is below ERRORS 1", zero.count(33), 1);
    }

    // "the bit of the PIECE told by a DRAW modulo all its bits (0 the highest of its first byte)"
    private static void bitOfThePiece() {
        int unseen = 0;
        for (int seed = 0; seed < 6000; seed++) {
            // two PIECES, 64 and 13 bytes: all six DRAWS are told by the SEED
            int first = drawn(seed, 3) % (8 * 64);
            int second = 8 * 64 + drawn(seed, 6) % (8 * 13);
            HeadsetBands x = broad();
            x.sets(0, seed);
            x.tone(0, 13, 2000, 0);
            x.tone(1, 29, 2000, 0);
            x.sets(8, 64);
            x.sets(10, 1000);
            x.run(2);
            due("bytes", x.code(NONE), 77);
            boolean seen = x.damaged(first, second) != 2;
            due("bits " + first + " and " + second + " by SEED " + seed, x.packet(0, 0), seen ? 1 : 2);
            unseen += seen ? 0 : 1;
        }
        due("some damage is not seen", unseen > 3 ? 1 : 0, 1);
    }

    // "With its last PIECE the CODE, as it came over, is looked at"; "all its PIECES are to be SENT anew"
    private static void brokenWithItsLastPiece() {
        HeadsetBands x = broad();
        x.sets(10, 1000);
        x.run(1);
        x.sets(10, 0);
        due("DAMAGED in the first PIECE", x.count(33), 1);
        x.run(6);
        due("not BROKEN yet", x.count(34), 0);
        due("seven came over", x.line(0, 4), 7);
        x.run(1);
        due("BROKEN with its last PIECE", x.count(34), 1);
        due("none came over", x.line(0, 4), 0);
        due("in line", x.packet(0, 0), 1);
        due("SENT eight times", x.line(0, 1), 8);
        due("eight PIECES still", x.line(0, 3), 8);
        x.run(7);
        due("seven anew", x.line(0, 4), 7);
        x.run(1);
        due("ARRIVED: the CODE is whole again", x.packet(0, 3), 15);
        due("SENT", x.packet(0, 1), 16);
        due("BROKEN once", x.count(34), 1);
        due("came over in all", x.count(32), 16);
        HeadsetBands y = broad();
        y.run(7);
        y.sets(10, 1000);
        y.run(1);
        due("DAMAGED in the last PIECE alone", y.count(34), 1);
    }

    // "(it stays where it is in line; ..)"
    private static void brokenStaysWhereItIs() {
        HeadsetBands x = small();
        x.sets(4, 16);
        x.burst(6);
        x.run(6);
        x.sets(10, 1000);
        x.run(1);
        due("BROKEN", x.count(34), 1);
        due("the first in line", x.line(0, 0), 0);
        due("the second", x.line(1, 0), 1);
        x.sets(10, 0);
        x.run(1);
        due("ARRIVES first", x.packet(0, 3), 7);
        x.run(1);
        due("then the second", x.packet(1, 3), 8);
        HeadsetBands y = small();
        y.sets(10, 1000);
        y.run(8);
        due("BROKEN at each SLOT", y.count(34), 8);
        y.run(1);
        due("and GIVEN UP", y.packet(0, 0), 3);
        due("SENT eight times", y.packet(0, 1), 8);
    }

    // "if its FRAME was PLAYED already, it is of no use"
    private static void playedAlreadyIsOfNoUse() {
        HeadsetBands x = small();
        x.sets(7, 1);
        x.sets(4, 16);
        x.run(4);
        due("FRAME 0 is PLAYED at SLOT 3", x.count(7), 1);
        x.burst(4);
        x.run(4);
        due("FRAME 1 is MADE UP at SLOT 7", x.packet(1, 2), 2);
        x.run(1);
        due("1 ARRIVES", x.packet(1, 0), 2);
        due("at SLOT 8", x.packet(1, 3), 8);
        due("counts as ARRIVED", x.count(3), 2);
        due("its delay counts", x.delays(4, 0), 1);
        due("of no use: LEVEL", x.count(6), 0);
        due("still MADE UP", x.packet(1, 2), 2);
        x.run(1);
        due("2 is of use", x.count(6), 1);
        // ARRIVING at the very SLOT at which its FRAME is due is in time
        HeadsetBands y = small();
        y.sets(7, 1);
        y.run(4);
        y.burst(3);
        y.run(4);
        due("ARRIVED at SLOT 7", y.packet(1, 3), 7);
        due("heard at SLOT 7", y.packet(1, 2), 1);
    }

    /** The first FRAMES GIVEN UP, so that those behind them wait a long time to be PLAYED. */
    private static HeadsetBands filling() {
        HeadsetBands x = small();
        x.sets(7, 6);
        x.sets(5, 100);
        x.run(200);
        x.sets(5, 0);
        x.run(1);
        for (int tries = 0; tries < Checks.TRIES && x.count(6) < 11; tries++) {
            x.run(4);
        }
        return x;
    }

    // "if LEVEL is 12 then, it is GIVEN UP in place of ARRIVING"
    private static void levelTwelve() {
        HeadsetBands x = filling();
        int next = x.count(1);
        int given = x.count(4);
        int arrived = x.count(3);
        due("LEVEL 11", x.count(6), 11);
        x.run(4);
        due("one more ARRIVES", x.packet(next, 0), 2);
        due("LEVEL 12", x.count(6), 12);
        due("ARRIVED", x.count(3), arrived + 1);
        x.run(4);
        due("the next one is GIVEN UP", x.packet(next + 1, 0), 3);
        due("it came over", x.packet(next + 1, 1), 1);
        due("no SLOT of arrival", x.packet(next + 1, 3), NONE);
        due("LEVEL is still 12", x.count(6), 12);
        due("GIVEN UP", x.count(4), given + 1);
        due("not ARRIVED", x.count(3), arrived + 1);
        due("no delay of it", x.delays(0, 0) + x.delays(0, 1), arrived + 1);
        due("it went from the line", x.count(5), 0);
        for (int tries = 0; tries < Checks.TRIES && x.count(6) == 12; tries++) {
            x.run(1);
        }
        due("one is PLAYED: LEVEL 11", x.count(6), 11);
        int later = x.count(1);
        x.run(4);
        due("there is room again", x.packet(later, 0), 2);
    }

    // "POOL as sets() tells it, at once"; "With STEERED 0 it is POOL"
    private static void inUseAtOnce() {
        HeadsetBands x = small();
        for (int pool : new int[] {2, 3, 127, 128, 40}) {
            x.sets(1, pool);
            due("IN USE", x.count(31), pool);
        }
        x.sets(1, 129);
        x.sets(1, 1);
        due("refused", x.count(31), 40);
        x.sets(5, 100);
        x.run(200);
        due("STEERED 0: POOL", x.count(31), 40);
        x.sets(9, 1);
        due("POOL till the next eighth", x.count(31), 40);
        for (int tries = 0; tries < Checks.TRIES && x.count(31) == 40; tries++) {
            x.run(1);
        }
        due("steered", x.count(31), 30);
        x.sets(9, 1);
        due("STEERED told anew", x.count(31), 30);
        x.sets(9, 2);
        due("STEERED refused", x.count(31), 30);
        x.sets(1, 40);
        due("POOL told anew, the same", x.count(31), 40);
        x.run(32);
        due("steered again", x.count(31), 30);
        x.sets(1, 20);
        due("POOL less than IN USE", x.count(31), 20);
    }

    // "behind each eighth FRAME coded: was a PACKET GIVEN UP .., it is three quarters of it (2 at least)"
    private static void threeQuarters() {
        HeadsetBands x = small();
        x.sets(9, 1);
        x.sets(5, 100);
        int[] used = {40, 30, 22, 16, 12, 9, 6, 4, 3, 2, 2, 2};
        x.run(28);
        for (int i = 0; i < used.length; i++) {
            due("ahead of the eighth", x.count(31), used[i]);
            due("seven coded", x.count(1) % 8, 7);
            x.run(1);
            due("the eighth is coded by what was IN USE", x.code(2), used[i]);
            due("behind it", x.count(31), i + 1 < used.length ? used[i + 1] : 2);
            x.run(4);
            due("the next one is coded by the new one", x.code(2), i + 1 < used.length ? used[i + 1] : 2);
            x.run(27);
        }
        int[][] others = {{128, 96}, {127, 95}, {41, 30}, {42, 31}, {43, 32}, {5, 3}, {4, 3}, {3, 2}, {2, 2}};
        for (int[] o : others) {
            HeadsetBands y = small();
            y.sets(9, 1);
            y.sets(5, 100);
            y.sets(1, o[0]);
            y.run(29);
            due("three quarters of " + o[0], y.count(31), o[1]);
        }
    }

    // "else 2 more (POOL at most)"
    private static void twoMore() {
        HeadsetBands x = small();
        x.sets(9, 1);
        x.run(64);
        due("POOL already", x.count(31), 40);
        x.restart();
        x.sets(1, 6);
        x.sets(5, 100);
        x.run(29);
        due("4 of 6", x.count(31), 4);
        x.sets(5, 0);
        // a PACKET of these first eight FRAMES is GIVEN UP behind the eighth was coded
        x.run(32);
        due("3 of 6", x.count(31), 3);
        int[] used = {5, 6, 6};
        for (int want : used) {
            x.run(31);
            due("not ahead of the eighth", x.count(31) == want && want != 6 ? 1 : 0, 0);
            x.run(1);
            due("two more, 6 at most", x.count(31), want);
        }
        HeadsetBands y = small();
        y.sets(9, 1);
        y.sets(1, 8);
        y.sets(5, 100);
        y.run(29);
        due("6 of 8", y.count(31), 6);
        y.restart();
        due("restart(): POOL", y.count(31), 8);
    }

    // "was a PACKET GIVEN UP in the line since the eighth one ahead"
    private static void givenUpSinceTheEighthAhead() {
        // FRAME 7 is coded at SLOT 28: GIVEN UP at SLOT 27 is ahead of it, at SLOT 28 behind it
        HeadsetBands ahead = givenUpOnce(5, 7);
        due("at SLOT 27", ahead.packet(5, 0), 3);
        due("ahead of the eighth", ahead.count(31), 30);
        ahead.run(32);
        due("none since", ahead.count(31), 32);
        HeadsetBands behind = givenUpOnce(5, 8);
        due("at SLOT 28", behind.packet(5, 0), 3);
        due("behind the eighth", behind.count(31), 40);
        behind.run(32);
        due("counts for the next eight", behind.count(31), 30);
        behind.run(32);
        due("and for no more", behind.count(31), 32);
        // what was GIVEN UP while STEERED was 0 counts as well, if it is not longer ago
        HeadsetBands late = small();
        late.burst(8);
        late.run(20);
        due("one GIVEN UP", late.count(4), 1);
        late.sets(9, 1);
        late.run(9);
        due("since the first", late.count(31), 30);
        HeadsetBands past = small();
        past.burst(8);
        past.run(29);
        past.sets(9, 1);
        past.run(32);
        due("longer ago", past.count(31), 40);
    }

    /** STEERED, PACKET k alone GIVEN UP, behind SLOT 28. */
    private static HeadsetBands givenUpOnce(int k, int deadline) {
        HeadsetBands x = small();
        x.sets(9, 1);
        x.sets(4, deadline);
        x.run(4 * k);
        x.burst(deadline);
        x.run(29 - 4 * k);
        due("GIVEN UP", x.count(4), 1);
        return x;
    }

    // IN FULL: "GIVEN UP (but not as one in the line, for STEERED)"
    private static void givenUpAtLevelTwelveDoesNotSteer() {
        HeadsetBands x = filling();
        x.run(4);
        x.sets(9, 1);
        x.sets(1, 60);
        for (int tries = 0; tries < Checks.TRIES && x.count(1) % 8 != 0; tries++) {
            x.run(1);
        }
        x.sets(1, 50);
        int given = x.count(4);
        x.run(32);
        due("eight GIVEN UP at LEVEL 12", x.count(4), given + 8);
        due("no reason to steer", x.count(31), 50);
    }

    private static void steeredNoMore() {
        HeadsetBands x = small();
        x.sets(9, 1);
        x.sets(5, 100);
        x.run(61);
        due("steered", x.count(31), 22);
        x.sets(9, 0);
        due("STEERED 0: POOL at once", x.count(31), 40);
        x.run(4);
        due("coded by it", x.code(2), 40);
        x.run(32);
        due("and stays", x.count(31), 40);
        x.sets(9, 1);
        due("STEERED again: from POOL", x.count(31), 40);
        x.run(32);
        due("three quarters", x.count(31), 30);
    }
}
