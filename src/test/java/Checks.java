import java.util.ArrayList;
import java.util.List;
import java.util.function.ToIntFunction;

/** What the tests have in common: telling answers that are not due, and asking an object for all it tells. */
final class Checks {
    static final int NONE = HeadsetBands.NONE;
    static final int MIN = Integer.MIN_VALUE;
    /** What a test waits for comes long before that; a broken class must not make it wait for ever. */
    static final int TRIES = 400;

    // The document promises nothing behind an object's 512th call.
    private static final int QUESTIONS_OF_ONE_OBJECT = 300;
    private static final List<ToIntFunction<HeadsetBands>> QUESTIONS = questions();

    private int wrong = 0;

    /** Calls on an object, the same each time. */
    interface Calls {
        void on(HeadsetBands x);
    }

    void due(String what, long got, long want) {
        if (got != want) {
            wrong++;
            System.out.println(what + " answered " + got + ", due is " + want);
        }
    }

    void due(String what, boolean got, boolean want) {
        if (got != want) {
            wrong++;
            System.out.println(what + " answered " + got + ", due is " + want);
        }
    }

    /** Behind both, an object tells the same of itself, and goes on the same way. */
    void same(String what, Calls one, Calls other) {
        List<Integer> got = answers(one);
        List<Integer> want = answers(other);
        for (int i = 0; i < want.size(); i++) {
            if (!got.get(i).equals(want.get(i))) {
                wrong++;
                System.out.println(what + ": question " + i + " is answered by " + got.get(i) + ", due is " + want.get(i));
                return;
            }
        }
    }

    void end() {
        System.out.println(wrong == 0 ? "all answers are as due" : wrong + " answers are not as due");
        if (wrong != 0) {
            System.exit(1);
        }
    }

    static HeadsetBands after(Calls calls) {
        HeadsetBands x = new HeadsetBands();
        calls.on(x);
        return x;
    }

    static Calls inOrder(Calls... all) {
        return x -> {
            for (Calls calls : all) {
                calls.on(x);
            }
        };
    }

    /**
     * All that an object tells behind these calls, then behind one FRAME more (what it holds unseen shows there), then
     * behind some more.
     */
    static List<Integer> answers(Calls calls) {
        List<Integer> all = new ArrayList<>();
        for (int later : new int[] {0, 4, 37}) {
            HeadsetBands x = null;
            for (int i = 0; i < QUESTIONS.size(); i++) {
                if (i % QUESTIONS_OF_ONE_OBJECT == 0) {
                    x = after(calls);
                    if (later > 0) {
                        x.run(later);
                    }
                }
                all.add(QUESTIONS.get(i).applyAsInt(x));
            }
        }
        return all;
    }

    private static List<ToIntFunction<HeadsetBands>> questions() {
        List<ToIntFunction<HeadsetBands>> all = new ArrayList<>();
        each(all, -1, 49, i -> x -> x.count(i));
        each(all, 0, 36, i -> x -> x.would(23, i));
        each(all, 0, 160, i -> x -> x.packet(i / 4, i % 4));
        each(all, 0, 30, i -> x -> x.line(i / 5, i % 5));
        each(all, 0, 112, i -> x -> x.played(i / 7, i % 7));
        each(all, 0, 4, i -> x -> x.late(i));
        each(all, 0, 32, i -> x -> x.delays(i / 2, i % 2));
        each(all, 0, 384, i -> x -> x.heard(i / 192, i % 192));
        each(all, 0, 16, i -> x -> x.spectrum(i / 8, i % 8));
        each(all, 0, 68, i -> x -> x.madeUp(i / 34, i % 34));
        each(all, 0, 128, i -> x -> x.source(i / 64, i % 64));
        each(all, 0, 256, i -> x -> x.band(i / 128, i / 16 % 8, i / 4 % 4, i % 4));
        each(all, 0, 64, i -> x -> x.dealt(i / 32, i / 4 % 8, i % 4));
        each(all, -1, 79, i -> x -> x.code(i));
        each(all, 0, 32, i -> x -> x.dealtBy(50, i / 16, i / 8 % 2, i % 8));
        each(all, 0, 4, i -> x -> x.cost(20 + 40 * (i / 2), i % 2));
        each(all, 0, 16, i -> x -> x.paired(i / 2, i % 2));
        each(all, -1, 2, i -> x -> x.share(i));
        return all;
    }

    private interface Numbered {
        ToIntFunction<HeadsetBands> at(int i);
    }

    private static void each(List<ToIntFunction<HeadsetBands>> all, int from, int to, Numbered question) {
        for (int i = from; i < to; i++) {
            all.add(question.at(i));
        }
    }
}
