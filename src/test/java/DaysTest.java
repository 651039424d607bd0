/** Promises 8 (stand), 9 (rest), 10 (underline), 11 (fresh), 12 (where), 28 (seeds). */
public final class DaysTest {
    public static void main(String[] args) {
        stands();
        joinedStand();
        standsOnTheLastDay();
        rests();
        underlines();
        freshOnes();
        freshJoined();
        wheres();
        seedsDrawn();
        seedsWrong();
        Checks.end("DaysTest");
    }

    private static void stands() {
        EnginesOnList x = Checks.with("e10c00123401;e11k00000000;e12n00234012;");
        Checks.due("stand(0)", x.stand(0), 4);
        Checks.due("count(1)", x.count(1), 1);
        Checks.due("count(2)", x.count(2), 3);
        Checks.due("count(3)", x.count(3), 0);
        x.underline(0, 0);
        Checks.due("stand(2) of an old one", x.stand(2), 0);
        Checks.due("stand(3) of an old one", x.stand(3), 0);
        Checks.due("stand(3)", x.stand(3), 1);
        Checks.due("count(1)", x.count(1), 4);
        Checks.due("engine(0, 4)", x.engine(0, 4), 1);
        Checks.due("count(2), earlier ones stay underlined", x.count(2), 3);
        Checks.refused(x, "stand(-1)", () -> x.stand(-1), -1);
        Checks.refused(x, "stand(5)", () -> x.stand(5), -1);
        Checks.due("count(1)", x.count(1), 4);
    }

    private static void joinedStand() {
        EnginesOnList x = Checks.with("e10c00123401;e11n00023401;e12c04444444;j1110;");
        Checks.due("count(3)", x.count(3), 2);
        Checks.due("stand(0), both of a pair", x.stand(0), 1);
        Checks.due("count(2)", x.count(2), 2);
        x.underline(0, 0);
        Checks.due("stand(1), a joined one that he has", x.stand(1), 0);
        Checks.due("engine(0, 4)", x.engine(0, 4), 1);
        EnginesOnList y = Checks.with("e10n00123401;e11c01123401;j1011;");
        Checks.due("count(3), the lesser counts", y.count(3), 2);
        Checks.due("stand(1), only the greater passes", y.stand(1), 2);
        Checks.due("count(2)", y.count(2), 1);
        Checks.due("count(3)", y.count(3), 0);
        EnginesOnList z = Checks.with("e10c00123401;e11n01123401;j1011;");
        Checks.due("stand(1), only the greater passes", z.stand(1), 1);
    }

    private static void standsOnTheLastDay() {
        EnginesOnList x = Checks.with("e10k00000000;");
        Checks.restTo(x, 998);
        Checks.due("stand(0) on day 998", x.stand(0), 1);
        x.underline(0, 0);
        Checks.due("count(1)", x.count(1), 999);
        Checks.refused(x, "stand(0) on day 999", () -> x.stand(0), -6);
        Checks.refused(x, "stand(5) on day 999", () -> x.stand(5), -1);
        Checks.due("count(2)", x.count(2), 0);
        Checks.due("count(1)", x.count(1), 999);
    }

    private static void rests() {
        EnginesOnList x = new EnginesOnList();
        Checks.due("rest(1)", x.rest(1), 1);
        Checks.due("rest(60)", x.rest(60), 61);
        Checks.refused(x, "rest(0)", () -> x.rest(0), -4);
        Checks.refused(x, "rest(min)", () -> x.rest(Integer.MIN_VALUE), -4);
        Checks.refused(x, "rest(61)", () -> x.rest(61), -6);
        Checks.refused(x, "rest(max)", () -> x.rest(Integer.MAX_VALUE), -6);
        Checks.restTo(x, 940);
        Checks.refused(x, "rest(60) on day 940", () -> x.rest(60), -6);
        Checks.due("rest(59) on day 940", x.rest(59), 999);
        Checks.refused(x, "rest(1) on day 999", () -> x.rest(1), -6);
        Checks.refused(x, "rest(0) on day 999", () -> x.rest(0), -4);
        Checks.due("count(1)", x.count(1), 999);
    }

    private static void underlines() {
        EnginesOnList x = Checks.with("e10c00000000;e11c00000000;j1011;");
        Checks.due("underline(1, 1)", x.underline(1, 1), 0);
        Checks.due("underline(1, 1) again", x.underline(1, 1), 1);
        Checks.due("underline(0, 0)", x.underline(0, 0), 0);
        Checks.due("engine(0, 6)", x.engine(0, 6), 1);
        Checks.due("underline(1, 0)", x.underline(1, 0), 1);
        Checks.due("underline(1, 0) again", x.underline(1, 0), 0);
        Checks.due("engine(0, 6)", x.engine(0, 6), 0);
        Checks.refused(x, "underline(2, 2)", () -> x.underline(2, 2), -1);
        Checks.refused(x, "underline(-1, 1)", () -> x.underline(-1, 1), -1);
        Checks.refused(x, "underline(0, 2)", () -> x.underline(0, 2), -2);
        Checks.refused(x, "underline(0, -1)", () -> x.underline(0, -1), -2);
        Checks.due("count(2)", x.count(2), 0);
    }

    private static void freshOnes() {
        EnginesOnList x = Checks.with("e10c00123401;e11k00000000;e12n09999990;e13x10000009;");
        Checks.due("fresh(0, 1)", x.fresh(0, 1), 3);
        Checks.due("fresh(0, 6)", x.fresh(0, 6), 3);
        Checks.due("fresh(0, 7)", x.fresh(0, 7), 5);
        Checks.due("fresh(1, 1)", x.fresh(1, 1), 0);
        Checks.due("fresh(1, 2)", x.fresh(1, 2), 1);
        Checks.due("fresh(1, 14)", x.fresh(1, 14), 1);
        x.rest(6);
        Checks.due("fresh(0, 1) on day 6", x.fresh(0, 1), 3);
        Checks.due("fresh(0, 14) on day 6", x.fresh(0, 14), 4);
        x.underline(2, 1);
        Checks.due("fresh(0, 14) without the named one", x.fresh(0, 14), 2);
        Checks.refused(x, "fresh(5, 0)", () -> x.fresh(5, 0), -1);
        Checks.refused(x, "fresh(-1, 15)", () -> x.fresh(-1, 15), -1);
        Checks.refused(x, "fresh(4, 0)", () -> x.fresh(4, 0), -4);
        Checks.refused(x, "fresh(4, 15)", () -> x.fresh(4, 15), -6);
        Checks.due("count(1)", x.count(1), 6);
        EnginesOnList far = Checks.with("e10w99999994;");
        Checks.restTo(far, 6);
        // Week 1 is the first in which it works; its day 13 is seven days off.
        Checks.due("fresh(4, 7)", far.fresh(4, 7), 0);
        Checks.due("fresh(4, 8)", far.fresh(4, 8), 1);
    }

    private static void freshJoined() {
        EnginesOnList x = Checks.with("e10n00999999;e11c00999999;e12c00999999;j1011;");
        Checks.due("fresh(0, 1), joined ones once", x.fresh(0, 1), 3);
        x.underline(1, 1);
        Checks.due("fresh(0, 1), one joined is had", x.fresh(0, 1), 1);
        EnginesOnList y = Checks.with("e10c00999999;e11n09099999;j1011;");
        Checks.due("fresh(0, 2), one after the other", y.fresh(0, 2), 1);
        y.rest(1);
        Checks.due("fresh(0, 1), the greater counts as the lesser", y.fresh(0, 1), 1);
    }

    private static void wheres() {
        EnginesOnList x = Checks.with("e10k30000000;e11c01999999;e12n09994999;e13c04999999;");
        Checks.due("where(1)", x.where(1), 1);
        Checks.due("where(3)", x.where(3), 1);
        Checks.due("where(4)", x.where(4), 4);
        Checks.due("where(14)", x.where(14), 4);
        x.underline(2, 1);
        x.underline(1, 1);
        Checks.due("where(14)", x.where(14), 3);
        x.underline(0, 1);
        x.underline(3, 1);
        Checks.due("where(14) with nothing new", x.where(14), 0);
        Checks.refused(x, "where(0)", () -> x.where(0), -4);
        Checks.refused(x, "where(-1)", () -> x.where(-1), -4);
        Checks.refused(x, "where(15)", () -> x.where(15), -6);
    }

    /** By the text: z becomes z times 1664525 and 1013904223; (z without its sign's bit by 256, cut) modulo 5. */
    private static void seedsDrawn() {
        int[] seeds = {0, 1, -1, 12345, Integer.MAX_VALUE, Integer.MIN_VALUE};
        for (int seed : seeds) {
            long z = seed;
            for (int n = 1; n <= 30; n++) {
                z = (int) (z * 1664525L + 1013904223L);
                int place = (int) ((z & 0x7fffffffL) / 256 % 5);
                int day = n - 1;
                // An engine that is at the drawn place on that day of the week alone.
                String week = "9999999".substring(0, day % 7) + place + "9999999".substring(day % 7 + 1);
                EnginesOnList x = Checks.with("e10c0" + week + ";");
                Checks.due("seeds(" + n + ", " + seed + ")", x.seeds(n, seed), 1);
                Checks.due("count(1)", x.count(1), 0);
            }
        }
        EnginesOnList x = Checks.with("e10k00000000;e11k10000000;e12k20000000;e13n00000000;");
        // Draws from 0: z 1013904223, place 3960563 modulo 5.
        Checks.due("seeds(1, 0)", x.seeds(1, 0), 0);
        Checks.land(x, "e14k30000000;e15n03333333;");
        Checks.due("seeds(1, 0) with two at the place", x.seeds(1, 0), 3);
        Checks.due("count(2)", x.count(2), 0);
        Checks.due("seeds(30, 0), all of them", x.seeds(30, 0), 8);
        x.stand(3);
        Checks.due("seeds(30, 0), what is left", x.seeds(30, 0), 5);
        EnginesOnList y = Checks.with("e10c09333333;");
        Checks.due("seeds(1, 0) from day 0", y.seeds(1, 0), 0);
        y.rest(1);
        Checks.due("seeds(1, 0) from day 1", y.seeds(1, 0), 1);
    }

    private static void seedsWrong() {
        EnginesOnList x = Checks.with("e10k00000000;");
        Checks.refused(x, "seeds(0, 0)", () -> x.seeds(0, 0), -4);
        Checks.refused(x, "seeds(-1, 0)", () -> x.seeds(-1, 0), -4);
        Checks.refused(x, "seeds(31, 0)", () -> x.seeds(31, 0), -6);
        Checks.restTo(x, 999);
        Checks.due("seeds(30, 7) on day 999", x.seeds(30, 7), 1);
    }
}
