import java.util.Random;

/** Runs of calls drawn by seed, each answered by the class and by PlainModel: all promises, mixed. */
public final class ModelTest {
    private static int wrong = 0;

    private final Random random;
    private final HeadsetBands x = new HeadsetBands();
    private final PlainModel m = new PlainModel();
    private final StringBuilder story = new StringBuilder();
    private final int profile;

    private ModelTest(long seed, int profile) {
        this.random = new Random(seed);
        this.profile = profile;
    }

    public static void main(String[] args) {
        int runs = args.length > 0 ? Integer.parseInt(args[0]) : 12;
        for (int profile = 0; profile < 8; profile++) {
            for (int seed = 0; seed < runs && wrong < 5; seed++) {
                new ModelTest(1000L * profile + seed, profile).oneRun(400);
            }
        }
        if (wrong == 0) {
            longRun(1);
            longRun(2);
            beyondTheLastFrame();
            for (int seed : new int[] {945, 1964, 2449, 2633, 4975, 574, 1381, 1417, 2421}) {
                unseenDamage(seed);
            }
        }
        System.out.println(wrong == 0 ? "class and model agree" : wrong + " runs differ");
        if (wrong != 0) {
            System.exit(1);
        }
    }

    /** A clock so fast at the end, with nothing coming, that the player gets beyond FRAME 2,499. */
    private static void beyondTheLastFrame() {
        ModelTest t = new ModelTest(3, 0);
        for (int i = 0; i < 25 && wrong == 0; i++) {
            if (i == 22) {
                t.call("sets", 5, 100, 0, 0);
                t.call("sets", 6, 50, 0, 0);
                t.call("sets", 7, 1, 0, 0);
            }
            t.call("run", 400, 0, 0, 0);
        }
        for (int what = 0; what < 37; what++) {
            t.call("count", what, 0, 0, 0);
        }
        for (int ago = 0; ago < 16; ago++) {
            t.call("played", ago, 0, 0, 0);
            t.call("played", ago, 4, 0, 0);
        }
        t.call("packet", 2499, 2, 0, 0);
        if (t.x.count(7) <= 2501) {
            wrong++;
            System.out.println("the player did not get beyond the last frame: " + t.x.count(7));
        }
    }

    /** Seeds by which damage that CHECK does not see makes POOL more than 128, or twins band 7. */
    private static void unseenDamage(int seed) {
        ModelTest t = new ModelTest(seed, 0);
        t.call("tone", 0, 13, 2000, 500);
        t.call("tone", 1, 29, 2000, 500);
        t.call("sets", 2, 0, 0, 0);
        t.call("sets", 0, seed, 0, 0);
        t.call("sets", 10, 1000, 0, 0);
        t.call("sets", 8, 10, 0, 0);
        t.call("sets", 4, 16, 0, 0);
        t.call("sets", 7, 1, 0, 0);
        for (int i = 0; i < 40 && wrong == 0; i++) {
            t.call("run", 4, 0, 0, 0);
            t.call("count", 17, 0, 0, 0);
            t.call("played", 0, 4, 0, 0);
            t.call("heard", i % 2, i % 32, 0, 0);
        }
    }

    /** To the last SLOT. */
    private static void longRun(int seed) {
        ModelTest t = new ModelTest(seed, 0);
        t.call("sets", 5, seed == 1 ? 0 : 30, 0, 0);
        t.call("sets", 6, 50, 0, 0);
        t.call("sets", 7, 6, 0, 0);
        for (int i = 0; i < 25 && wrong == 0; i++) {
            if (i == 12) {
                t.call("sets", 5, 100, 0, 0);
            }
            t.call("run", 400, 0, 0, 0);
            // a fourth of them each time: an object is good for 512 calls
            for (int what = -1 + i % 4; what < 50; what += 4) {
                t.call("count", what, 0, 0, 0);
            }
        }
        for (int k = 2480; k < 2502 && wrong == 0; k++) {
            for (int what = 0; what < 4; what++) {
                t.call("packet", k, what, 0, 0);
            }
        }
        t.call("run", 1, 0, 0, 0);
        t.call("would", 1, 0, 0, 0);
    }

    private void oneRun(int calls) {
        setUp();
        for (int i = 0; i < calls; i++) {
            if (!oneCall()) {
                return;
            }
        }
    }

    private void setUp() {
        call("sets", 0, random.nextInt(1000000), 0, 0);
        switch (profile) {
            case 1:
                call("sets", 5, 20 + random.nextInt(50), 0, 0);
                break;
            case 2:
                call("sets", 10, 100 + random.nextInt(900), 0, 0);
                call("sets", 4, 16, 0, 0);
                call("sets", 8, 10 + random.nextInt(8), 0, 0);
                break;
            case 3:
                call("sets", 9, 1, 0, 0);
                call("sets", 1, 128, 0, 0);
                call("sets", 8, 10, 0, 0);
                break;
            case 4:
                call("sets", 6, random.nextBoolean() ? 50 : -50, 0, 0);
                break;
            case 5:
                call("sets", 1, 2 + random.nextInt(20), 0, 0);
                call("tone", 0, 2 + random.nextInt(10), 2000, 500);
                call("tone", 1, 2 + random.nextInt(10), 2000, 500);
                break;
            case 6:
                call("sets", 5, 100, 0, 0);
                call("run", 200, 0, 0, 0);
                call("sets", 5, 0, 0, 0);
                call("run", 200, 0, 0, 0);
                break;
            default:
                break;
        }
    }

    private boolean oneCall() {
        int kind = random.nextInt(100);
        if (kind < 14) {
            return call("run", random.nextInt(12) == 0 ? random.nextInt(500) : 1 + random.nextInt(9), 0, 0, 0);
        }
        if (kind < 22) {
            return orders();
        }
        if (kind < 45) {
            return framesCalls();
        }
        if (kind < 60) {
            return paperCalls();
        }
        return wayCalls();
    }

    private boolean orders() {
        int kind = random.nextInt(profile == 7 ? 16 : 12);
        if (kind < 2) {
            return call("tone", edge(2), 2 + edge(200), edge(2001), random.nextInt(3) > 0 ? 0 : edge(501));
        }
        if (kind < 6) {
            int[] spans = {1000000, 129, 2, 2, 17, 60, 102, 7, 81, 2, 300, 3};
            int what = random.nextInt(12);
            int v = random.nextInt(spans[what] + 2) - (what == 6 ? 51 : 1);
            return call("sets", what, v, 0, 0);
        }
        if (kind < 8) {
            return call("loud", edge(8), random.nextInt(15) - 5, 0, 0);
        }
        if (kind < 9) {
            return call("burst", random.nextInt(4) == 0 ? edge(100) : random.nextInt(6), 0, 0, 0);
        }
        if (kind < 10) {
            return random.nextInt(6) > 0 || call("restart", 0, 0, 0, 0);
        }
        return call(kind % 2 == 0 ? "keep" : "again", edge(2), 0, 0, 0);
    }

    private boolean framesCalls() {
        switch (random.nextInt(9)) {
            case 0: return call("source", edge(2), edge(100000), 0, 0);
            case 1: case 2: return call("band", edge(2), edge(8), edge(4), edge(4));
            case 3: case 4: return call("dealt", edge(2), edge(8), edge(4), 0);
            case 5: return call("code", random.nextInt(80) - 2, 0, 0, 0);
            case 6: return call("paired", edge(8), edge(2), 0, 0);
            case 7: return call("share", random.nextInt(4) - 2, 0, 0, 0);
            default: return call("damaged", random.nextInt(700) - 2, random.nextInt(700) - 2, 0, 0)
                && call("damaged", random.nextInt(270), -1, 0, 0);
        }
    }

    private boolean paperCalls() {
        int pool = random.nextInt(129) + 1;
        switch (random.nextInt(5)) {
            case 0: return call("dealtBy", pool, edge(2), edge(2), edge(8));
            case 1: return call("cost", pool, edge(2), 0, 0);
            case 2: return call("least", edge(2), random.nextInt(2000) - 10, 0, 0);
            case 3: return call("coded", pool, edge(2), edge(2), edge(4));
            default: return call("worst", pool, edge(2), edge(2), 0);
        }
    }

    private boolean wayCalls() {
        switch (random.nextInt(14)) {
            case 0: return call("heard", edge(2), edge(192), 0, 0);
            case 1: return call("spectrum", edge(2), edge(8), 0, 0);
            case 2: return call("madeUp", edge(2), random.nextInt(36) - 1, 0, 0);
            case 3: case 4: return call("line", random.nextInt(6) - 1, edge(5), 0, 0);
            case 5: case 6: return call("packet", m.count(1) - 6 + random.nextInt(9), edge(4), 0, 0);
            case 7: case 8: return call("played", random.nextInt(18) - 1, edge(7), 0, 0);
            case 9: return call("late", edge(4), 0, 0, 0);
            case 10: return call("delays", edge(16), edge(2), 0, 0);
            case 11: return call("would", random.nextInt(110) - 3, random.nextInt(50) - 1, 0, 0);
            default: return call("count", random.nextInt(50) - 1, 0, 0, 0);
        }
    }

    /** 0 .. many less 1, and now and then what is just beyond. */
    private int edge(int many) {
        return random.nextInt(20) == 0 ? (random.nextBoolean() ? -1 : many) : random.nextInt(many);
    }

    private boolean call(String name, int a, int b, int c, int d) {
        story.append(name).append('(').append(a).append(", ").append(b).append(", ").append(c).append(", ")
            .append(d).append(")\n");
        int got = ofClass(name, a, b, c, d);
        int due = ofModel(name, a, b, c, d);
        if (got == due) {
            return true;
        }
        wrong++;
        System.out.println(story + " answered " + got + ", due is " + due);
        return false;
    }

    private static int number(boolean b) {
        return b ? 1 : 0;
    }

    private int ofClass(String name, int a, int b, int c, int d) {
        switch (name) {
            case "tone": return number(x.tone(a, b, c, d));
            case "sets": return number(x.sets(a, b));
            case "loud": return number(x.loud(a, b));
            case "burst": return x.burst(a);
            case "run": return x.run(a);
            case "restart": return x.restart();
            case "keep": return number(x.keep(a));
            case "again": return number(x.again(a));
            case "source": return x.source(a, b);
            case "band": return x.band(a, b, c, d);
            case "dealt": return x.dealt(a, b, c);
            case "code": return x.code(a);
            case "dealtBy": return x.dealtBy(a, b, c, d);
            case "cost": return x.cost(a, b);
            case "least": return x.least(a, b);
            case "coded": return x.coded(a, b, c, d);
            case "worst": return x.worst(a, b, c);
            case "paired": return x.paired(a, b);
            case "share": return x.share(a);
            case "damaged": return x.damaged(a, b);
            case "heard": return x.heard(a, b);
            case "spectrum": return x.spectrum(a, b);
            case "madeUp": return x.madeUp(a, b);
            case "line": return x.line(a, b);
            case "packet": return x.packet(a, b);
            case "played": return x.played(a, b);
            case "late": return x.late(a);
            case "delays": return x.delays(a, b);
            case "would": return x.would(a, b);
            case "count": return x.count(a);
            default: throw new IllegalStateException(name);
        }
    }

    private int ofModel(String name, int a, int b, int c, int d) {
        switch (name) {
            case "tone": return number(m.tone(a, b, c, d));
            case "sets": return number(m.sets(a, b));
            case "loud": return number(m.loud(a, b));
            case "burst": return m.burst(a);
            case "run": return m.run(a);
            case "restart": return m.restart();
            case "keep": return number(m.keep(a));
            case "again": return number(m.again(a));
            case "source": return m.source(a, b);
            case "band": return m.band(a, b, c, d);
            case "dealt": return m.dealt(a, b, c);
            case "code": return m.code(a);
            case "dealtBy": return m.dealtBy(a, b, c, d);
            case "cost": return m.cost(a, b);
            case "least": return m.least(a, b);
            case "coded": return m.coded(a, b, c, d);
            case "worst": return m.worst(a, b, c);
            case "paired": return m.paired(a, b);
            case "share": return m.share(a);
            case "damaged": return m.damaged(a, b);
            case "heard": return m.heard(a, b);
            case "spectrum": return m.spectrum(a, b);
            case "madeUp": return m.madeUp(a, b);
            case "line": return m.line(a, b);
            case "packet": return m.packet(a, b);
            case "played": return m.played(a, b);
            case "late": return m.late(a);
            case "delays": return m.delays(a, b);
            case "would": return m.would(a, b);
            case "count": return m.count(a);
            default: throw new IllegalStateException(name);
        }
    }
}
