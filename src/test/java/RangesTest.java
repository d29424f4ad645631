import java.util.ArrayList;
import java.util.List;

/**
 * Each argument of each call at its least and its greatest, just below, just above and far off: what is refused
 * answers as the document says, and nothing happens.
 */
public final class RangesTest {
    private static final int NONE = Checks.NONE;
    private static final int MIN = Checks.MIN;
    private static final int ANY = Integer.MAX_VALUE;
    private static final Checks CHECKS = new Checks();

    private interface Body {
        int of(HeadsetBands x, int... a);
    }

    /** A call with arguments that are taken, the ranges of each one, and what it answers where it is refused. */
    private record Call(String name, int refusal, int[] good, int[][] ranges, Body body) {
    }

    public static void main(String[] args) {
        List<Call> orders = orders();
        List<Call> questions = questions();
        for (Call call : orders) {
            edges(call, RangesTest::midway);
            edges(call, x -> x.keep(0));
        }
        for (Call call : questions) {
            edges(call, RangesTest::midway);
        }
        farOff(orders);
        farOff(questions);
        questionsAheadOfAnyFrame();
        questionsChangeNothing(questions);
        setsOfNoSuchThing();
        leastOfAnyNumber();
        againOfNothing();
        CHECKS.end();
    }

    /** Some SLOTS on, with losses and errors, three in line, and another state kept under 0. */
    private static void midway(HeadsetBands x) {
        x.sets(5, 20);
        x.sets(10, 150);
        x.sets(8, 12);
        x.sets(9, 1);
        x.sets(0, 4711);
        x.tone(1, 33, 700, 90);
        x.loud(3, 1);
        x.run(50);
        x.keep(0);
        x.keep(1);
        x.burst(20);
        x.run(58);
        x.sets(4, 16);
        x.burst(40);
        x.run(9);
    }

    private static int number(boolean b) {
        return b ? 1 : 0;
    }

    private static int[] row(int... numbers) {
        return numbers;
    }

    private static int[][] ranges(int... edges) {
        int[][] all = new int[edges.length / 2][];
        for (int i = 0; i < all.length; i++) {
            all[i] = row(edges[2 * i], edges[2 * i + 1]);
        }
        return all;
    }

    private static List<Call> orders() {
        List<Call> all = new ArrayList<>();
        all.add(new Call("tone", 0, row(0, 40, 100, 5), ranges(0, 1, 2, 200, 0, 2000, 0, 500),
            (x, a) -> number(x.tone(a[0], a[1], a[2], a[3]))));
        int[][] told = ranges(0, 999999, 2, 128, 0, 1, 0, 1, 1, 16, 0, 100, -50, 50, 1, 6, 10, 80, 0, 1, 0, 1000);
        for (int what = 0; what < told.length; what++) {
            int w = what;
            all.add(new Call("sets " + what, 0, row(told[what][0]), new int[][] {told[what]},
                (x, a) -> number(x.sets(w, a[0]))));
        }
        all.add(new Call("loud", 0, row(0, 0), ranges(0, 7, -4, 8), (x, a) -> number(x.loud(a[0], a[1]))));
        all.add(new Call("burst", NONE, row(5), ranges(0, 99), (x, a) -> x.burst(a[0])));
        all.add(new Call("run", NONE, row(5), ranges(1, 400), (x, a) -> x.run(a[0])));
        all.add(new Call("keep", 0, row(0), ranges(0, 1), (x, a) -> number(x.keep(a[0]))));
        return all;
    }

    private static List<Call> questions() {
        List<Call> all = new ArrayList<>();
        all.add(new Call("source", MIN, row(0, 9), ranges(0, 1, 0, 99999), (x, a) -> x.source(a[0], a[1])));
        all.add(new Call("band", MIN, row(0, 0, 0, 0), ranges(0, 1, 0, 7, 0, 3, 0, 3),
            (x, a) -> x.band(a[0], a[1], a[2], a[3])));
        all.add(new Call("dealt", MIN, row(0, 0, 0), ranges(0, 1, 0, 7, 0, 3), (x, a) -> x.dealt(a[0], a[1], a[2])));
        HeadsetBands y = Checks.after(RangesTest::midway);
        int bytes = y.code(NONE);
        all.add(new Call("code", NONE, row(0), ranges(-1, bytes - 1), (x, a) -> x.code(a[0])));
        all.add(new Call("dealtBy", NONE, row(40, 0, 0, 0), ranges(2, 128, 0, 1, 0, 1, 0, 7),
            (x, a) -> x.dealtBy(a[0], a[1], a[2], a[3])));
        all.add(new Call("cost", NONE, row(40, 0), ranges(2, 128, 0, 1), (x, a) -> x.cost(a[0], a[1])));
        all.add(new Call("least", NONE, row(0), ranges(0, 1), (x, a) -> x.least(a[0], 1000000)));
        all.add(new Call("coded", NONE, row(40, 0, 0, 0), ranges(2, 128, 0, 1, 0, 1, 0, 3),
            (x, a) -> x.coded(a[0], a[1], a[2], a[3])));
        all.add(new Call("worst", NONE, row(40, 0, 0), ranges(2, 128, 0, 1, 0, 1), (x, a) -> x.worst(a[0], a[1], a[2])));
        all.add(new Call("paired", NONE, row(0, 0), ranges(0, 7, 0, 1), (x, a) -> x.paired(a[0], a[1])));
        all.add(new Call("share", NONE, row(0), ranges(-1, 1), (x, a) -> x.share(a[0])));
        all.add(new Call("damaged", NONE, row(9, 17), ranges(0, 8 * bytes - 1, -1, 8 * bytes - 1),
            (x, a) -> x.damaged(a[0], a[1])));
        all.add(new Call("heard", MIN, row(0, 0), ranges(0, 1, 0, 191), (x, a) -> x.heard(a[0], a[1])));
        all.add(new Call("spectrum", MIN, row(0, 0), ranges(0, 1, 0, 7), (x, a) -> x.spectrum(a[0], a[1])));
        all.add(new Call("madeUp", MIN, row(0, 0), ranges(0, 1, 0, 33), (x, a) -> x.madeUp(a[0], a[1])));
        all.add(new Call("line", NONE, row(0, 0), ranges(0, y.count(5) - 1, 0, 4), (x, a) -> x.line(a[0], a[1])));
        all.add(new Call("packet", NONE, row(0, 0), ranges(0, 2499, 0, 3), (x, a) -> x.packet(a[0], a[1])));
        all.add(new Call("played", MIN, row(0, 0), ranges(0, 15, 0, 6), (x, a) -> x.played(a[0], a[1])));
        all.add(new Call("late", MIN, row(0), ranges(0, 3), (x, a) -> x.late(a[0])));
        all.add(new Call("delays", NONE, row(0, 0), ranges(0, 15, 0, 1), (x, a) -> x.delays(a[0], a[1])));
        all.add(new Call("would", MIN, row(1, 0), ranges(1, 100, 0, 36), (x, a) -> x.would(a[0], a[1])));
        all.add(new Call("would, LOUD", MIN, row(1, 40), ranges(1, 100, 40, 47), (x, a) -> x.would(a[0], a[1])));
        all.add(new Call("count", MIN, row(0), ranges(0, 36), (x, a) -> x.count(a[0])));
        all.add(new Call("count, LOUD", MIN, row(40), ranges(40, 47), (x, a) -> x.count(a[0])));
        return all;
    }

    /** The edges are taken; a step beyond them is refused, and nothing happens, to what is kept neither. */
    private static void edges(Call call, Checks.Calls state) {
        for (int i = 0; i < call.good.length; i++) {
            for (int side = 0; side < 2; side++) {
                int[] a = call.good.clone();
                a[i] = call.ranges[i][side];
                String told = told(call, a);
                CHECKS.due(told + " is taken", call.body.of(Checks.after(state), a) != call.refusal, true);
                a[i] += side == 0 ? -1 : 1;
                refused(call, a, state);
            }
        }
    }

    private static void refused(Call call, int[] a, Checks.Calls state) {
        String told = told(call, a);
        Checks.Calls one = x -> call.body.of(x, a);
        CHECKS.due(told, call.body.of(Checks.after(state), a), call.refusal);
        CHECKS.same(told + ": nothing happens", Checks.inOrder(state, one), state);
        Checks.Calls again = x -> x.again(0);
        CHECKS.same(told + ": what is kept stays", Checks.inOrder(state, one, again), Checks.inOrder(state, again));
    }

    private static void farOff(List<Call> calls) {
        int[] wild = {MIN, MIN + 1, MIN / 2, -65536, -256, 2048 + 98303, 1 << 20, 1 << 24, 1 << 30, ANY - 1, ANY};
        for (Call call : calls) {
            HeadsetBands x = Checks.after(RangesTest::midway);
            for (int i = 0; i < call.good.length; i++) {
                for (int v : wild) {
                    if (v >= call.ranges[i][0] && v <= call.ranges[i][1]) {
                        continue;
                    }
                    int[] a = call.good.clone();
                    a[i] = v;
                    CHECKS.due(told(call, a), call.body.of(x, a), call.refusal);
                    int[] b = new int[a.length];
                    java.util.Arrays.fill(b, v);
                    CHECKS.due(told(call, b), call.body.of(x, b), call.refusal);
                }
            }
        }
        Checks.Calls all = x -> {
            for (Call call : calls) {
                for (int i = 0; i < call.good.length; i++) {
                    for (int v : new int[] {MIN, ANY}) {
                        int[] a = call.good.clone();
                        a[i] = v;
                        if (v < call.ranges[i][0] || v > call.ranges[i][1]) {
                            call.body.of(x, a);
                        }
                    }
                }
            }
        };
        CHECKS.same("far off: nothing happens", Checks.inOrder(RangesTest::midway, all), RangesTest::midway);
    }

    /** "Ahead of any" FRAME coded: of a new object, behind restart(), behind again() to such a state. */
    private static void questionsAheadOfAnyFrame() {
        List<Checks.Calls> states = new ArrayList<>();
        states.add(x -> { });
        states.add(x -> {
            x.run(99);
            x.restart();
        });
        states.add(x -> {
            x.keep(1);
            x.run(99);
            x.again(1);
        });
        for (Checks.Calls state : states) {
            HeadsetBands x = Checks.after(state);
            for (int what = 0; what < 4; what++) {
                CHECKS.due("band ahead of any", x.band(0, 0, 0, what), MIN);
                CHECKS.due("dealt ahead of any", x.dealt(0, 0, what), MIN);
                CHECKS.due("coded ahead of any", x.coded(40, 1, 1, what), NONE);
                CHECKS.due("worst ahead of any", x.worst(40, 1, what), NONE);
                CHECKS.due("late without any", x.late(what), MIN);
            }
            CHECKS.due("code(0) ahead of any", x.code(0), NONE);
            CHECKS.due("code(NONE) ahead of any", x.code(NONE), NONE);
            CHECKS.due("dealtBy ahead of any", x.dealtBy(40, 1, 0, 0), NONE);
            CHECKS.due("cost ahead of any", x.cost(40, 1), NONE);
            CHECKS.due("least ahead of any", x.least(1, ANY), NONE);
            CHECKS.due("paired ahead of any, apart", x.paired(0, 0), NONE);
            CHECKS.due("paired ahead of any", x.paired(0, 1), NONE);
            CHECKS.due("share ahead of any", x.share(0), NONE);
            CHECKS.due("share of both ahead of any", x.share(NONE), NONE);
            CHECKS.due("damaged ahead of any", x.damaged(0, NONE), NONE);
            CHECKS.due("line of none", x.line(0, 0), NONE);
            for (int what = 0; what < 7; what++) {
                CHECKS.due("played of none", x.played(0, what), MIN);
            }
            CHECKS.due("heard ahead of any: 0", x.heard(1, 0), 0);
            CHECKS.due("heard ahead of any, the oldest: 0", x.heard(1, 191), 0);
            CHECKS.due("madeUp ahead of any: LAG", x.madeUp(1, 0), 16);
            CHECKS.due("madeUp ahead of any: sum", x.madeUp(1, 1), 0);
            CHECKS.due("madeUp ahead of any: SAMPLE 31", x.madeUp(1, 33), 0);
            CHECKS.due("spectrum ahead of any", x.spectrum(1, 7), 0);
            CHECKS.due("packet not made", x.packet(0, 0), 0);
            CHECKS.due("packet not sent", x.packet(0, 1), 0);
            CHECKS.due("frame not played", x.packet(0, 2), 0);
            CHECKS.due("packet not arrived", x.packet(0, 3), NONE);
            CHECKS.due("delays of none", x.delays(0, 0), 0);
            CHECKS.due("delays of none, more", x.delays(0, 1), 0);
            x.run(1);
            CHECKS.due("one frame is enough", x.share(NONE), 40);
        }
    }

    private static void questionsChangeNothing(List<Call> questions) {
        Checks.Calls asked = x -> {
            for (Call call : questions) {
                for (int i = 0; i < call.good.length; i++) {
                    for (int side = 0; side < 2; side++) {
                        int[] a = call.good.clone();
                        a[i] = call.ranges[i][side];
                        call.body.of(x, a);
                    }
                }
            }
        };
        Checks.Calls again = x -> x.again(0);
        CHECKS.same("questions change nothing", Checks.inOrder(RangesTest::midway, asked), RangesTest::midway);
        CHECKS.same("nor what is kept", Checks.inOrder(RangesTest::midway, asked, again),
            Checks.inOrder(RangesTest::midway, again));
        CHECKS.same("nor of a new object", asked, x -> { });
    }

    /** No number is right for what is not there: each of these is taken by one of the others. */
    private static void setsOfNoSuchThing() {
        for (int what : new int[] {-1, 11, -2, 12, 20, 31, MIN, ANY}) {
            for (int v : new int[] {0, 1, 2, 20, 1000, what}) {
                CHECKS.due("sets(" + what + ", " + v + ")", Checks.after(RangesTest::midway).sets(what, v), false);
            }
            CHECKS.same("sets(" + what + ", 20): nothing happens",
                Checks.inOrder(RangesTest::midway, x -> x.sets(what, 20)), RangesTest::midway);
        }
    }

    private static void leastOfAnyNumber() {
        HeadsetBands x = Checks.after(RangesTest::midway);
        for (int method = 0; method < 2; method++) {
            CHECKS.due("least of the greatest number", x.least(method, ANY), 2);
            CHECKS.due("least of what POOL 2 costs", x.least(method, x.cost(2, method)), 2);
            CHECKS.due("least of one less", x.least(method, x.cost(2, method) - 1) > 2, true);
            CHECKS.due("least of less than 0", x.least(method, -1), NONE);
            CHECKS.due("least of the least number", x.least(method, MIN), NONE);
        }
    }

    private static void againOfNothing() {
        for (int k : new int[] {-1, 0, 1, 2, MIN, ANY}) {
            Checks.Calls fresh = x -> x.run(30);
            CHECKS.due("again(" + k + ") of nothing", Checks.after(fresh).again(k), false);
            CHECKS.same("again(" + k + ") of nothing", Checks.inOrder(fresh, x -> x.again(k)), fresh);
        }
        for (int k = 0; k < 2; k++) {
            int other = 1 - k;
            HeadsetBands x = Checks.after(y -> y.keep(1 - other));
            CHECKS.due("again(" + other + "), the other one is kept", x.again(other), false);
            CHECKS.due("again(" + k + ")", x.again(k), true);
            CHECKS.due("again(" + k + ") once more", x.again(k), true);
        }
        for (int k : new int[] {-1, 2, MIN, ANY}) {
            CHECKS.due("keep(" + k + ")", new HeadsetBands().keep(k), false);
            CHECKS.due("again(" + k + "), both are kept", Checks.after(RangesTest::midway).again(k), false);
            CHECKS.same("again(" + k + ") is refused", Checks.inOrder(RangesTest::midway, x -> x.again(k)),
                RangesTest::midway);
        }
    }

    private static String told(Call call, int[] a) {
        StringBuilder text = new StringBuilder(call.name).append('(');
        for (int i = 0; i < a.length; i++) {
            text.append(i == 0 ? "" : ", ").append(a[i]);
        }
        return text.append(')').toString();
    }
}
