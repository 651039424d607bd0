import java.util.function.IntSupplier;

/** What the tests share: comparing answers, and telling a land in one go. */
final class Checks {
    private static int wrong = 0;
    private static int compared = 0;

    private Checks() {
    }

    static void due(String call, int got, int want) {
        compared++;
        if (got != want) {
            wrong++;
            System.out.println(call + " answered " + got + ", due is " + want);
        }
    }

    static void holds(String what, boolean is) {
        due(what, is ? 1 : 0, 1);
    }

    static void letters(EnginesOnList x, String text) {
        for (int i = 0; i < text.length(); i++) {
            x.letter(text.charAt(i));
        }
    }

    static int land(EnginesOnList x, String text) {
        letters(x, text);
        return x.land();
    }

    /** A new object with these lands; each must come without a fault. */
    static EnginesOnList with(String... texts) {
        EnginesOnList x = new EnginesOnList();
        for (String text : texts) {
            int statements = land(x, text);
            holds("land of " + text + " (" + statements + ")", statements > 0);
        }
        return x;
    }

    /** Rests until TODAY is that day. */
    static void restTo(EnginesOnList x, int today) {
        while (x.count(1) < today) {
            x.rest(Math.min(60, today - x.count(1)));
        }
    }

    static void refused(EnginesOnList x, String call, IntSupplier answer, int code) {
        int before = x.count(10 - code);
        due(call, answer.getAsInt(), code);
        due("count(" + (10 - code) + ") behind " + call, x.count(10 - code), before + 1);
    }

    static void end(String test) {
        System.out.println(test + ": " + compared + " compared, " + wrong + " wrong");
        if (wrong != 0 || compared == 0) {
            System.exit(1);
        }
    }
}
