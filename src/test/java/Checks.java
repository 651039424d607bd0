import java.util.function.IntSupplier;

/** What the tests share: comparing answers, and telling a land in one go. */
public final class Checks {
    private static int wrong = 0;
    private static int compared = 0;

    private Checks() {
    }

    public static void due(String call, int got, int want) {
        compared++;
        if (got != want) {
            wrong++;
            System.out.println(call + " answered " + got + ", due is " + want);
        }
    }

    static void holds(String what, boolean is) {
        due(what, is ? 1 : 0, 1);
    }

    static void letters(EnginesOnList x, String text) {
        for (int i = 0; i < text.length(); i++) {
            x.letter(text.charAt(i));
        }
    }

    static int land(EnginesOnList x, String text) {
        letters(x, text);
        return x.land();
    }

    /** A new object with these lands; each must come without a fault. */
    static EnginesOnList with(String... texts) {
        EnginesOnList x = new EnginesOnList();
        for (String text : texts) {
            int statements = land(x, text);
            holds("land of " + text + " (" + statements + ")", statements > 0);
        }
        return x;
    }

    /** Rests until TODAY is that day. */
    static void restTo(EnginesOnList x, int today) {
        while (x.count(1) < today) {
            x.rest(Math.min(60, today - x.count(1)));
        }
    }

    static void refused(EnginesOnList x, String call, IntSupplier answer, int code) {
        int before = x.count(10 - code);
        due(call, answer.getAsInt(), code);
        due("count(" + (10 - code) + ") behind " + call, x.count(10 - code), before + 1);
    }

    /** The answers of all calls that ask and change nothing: some 180 calls. */
    static int[] asked(EnginesOnList x) {
        int[] answers = new int[256];
        int n = 0;
        for (int what = 0; what <= 7; what++) {
            answers[n++] = x.count(what);
        }
        for (int engine = 0; engine < 7 && engine < x.count(0); engine++) {
            for (int what = 0; what <= 6; what++) {
                answers[n++] = x.engine(engine, what);
                answers[n++] = x.turn(engine, what);
            }
            answers[n++] = x.at(engine, x.count(1));
            answers[n++] = x.await(engine, engine % 5);
            answers[n++] = x.chase(engine);
        }
        for (int reading = 0; reading < 12 && reading < x.count(4); reading++) {
            answers[n++] = x.fitting(reading, 0);
            answers[n++] = x.fitting(reading, 1);
        }
        int[] others = {x.fresh(0, 1), x.fresh(1, 3), x.fresh(4, 14), x.where(2), x.plan(4, 7, -1), x.plan(5, 20, 4),
            x.ever(), x.all(), x.madeUp(), x.liars(), x.clash(0), x.clash(1), x.sure(), x.pairs(3, 0), x.pairs(1, 1),
            x.many(), x.more(), x.seeds(30, 7), x.seeds(2, 8), x.pass(2, x.count(1))};
        System.arraycopy(others, 0, answers, n, others.length);
        return answers;
    }

    static void same(String name, EnginesOnList x, EnginesOnList twin) {
        int[] got = asked(x);
        int[] want = asked(twin);
        for (int i = 0; i < want.length; i++) {
            due("answer " + i + " " + name, got[i], want[i]);
        }
    }

    static void end(String test) {
        System.out.println(test + ": " + compared + " compared, " + wrong + " wrong");
        if (wrong != 0 || compared == 0) {
            System.exit(1);
        }
    }
}
