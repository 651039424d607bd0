/**
 * The edges of TODAY, the LIST, HE HAS, NEW, STAND, FRESH, WHERE, SEEDS in "Terms", and of promises 8 to 12 and 28:
 * each method has the sentence it looks at.
 */
public final class EdgesOfDaysTest {
    private static final String SEVEN = "e10k00000000;e11k00000000;e12k00000000;e13k00000000;";
    private static final String OF_THEM = "e14k00000000;e15k00000000;e16k00000000;";
    private static final String NAMES = "e10n00000000;e11n00000000;e12n00000000;e13n00000000;";
    private static final String MORE_NAMES = "e14n00000000;e15n00000000;e16n00000000;";
    /** The thirty draws below 5 of each seed, reckoned by another program in numbers without bound. */
    private static final int[] SEEDS = {0, 1, -1, Integer.MAX_VALUE, Integer.MIN_VALUE, 12345, -12345, 255, 256};
    private static final String[] DRAWS = {
        "321440424024343142103020302320", "034014220023434100010300024102", "101234022420210433443021031303",
        "101234022420210433443021031303", "321440424024343142103020302320", "014433342340413442123403300303",
        "141342410422401041111301201401", "123111440323130020423211340030", "340322340424211234131010111322",
    };

    public static void main(String[] args) {
        today0AtFirst();
        restFrom1To60();
        restTo999AtMost();
        standTo999AtMost();
        standWhereNothingPasses();
        standWhereAllPass();
        standUnderlinesAllThatPass();
        standOnBothSidesOfAWeek();
        underlinedOrNot();
        listOfNoneAndOfAll();
        heHasWhatIsJoined();
        newOnesEachCount1();
        namedOnesCount2();
        joinedOnesOnce();
        joinedAsTheLesser();
        joinedAfterwards();
        freshFrom1To14();
        freshEachOnce();
        freshAtTheLastToday();
        freshOfOnlyTheGreater();
        whereFrom1To14();
        whereOfSeveralTheLeast();
        seedsFrom1To30();
        seedsByTheirDraws();
        seedsOfNoneAndOfAll();
        seedsAtTheLastToday();
        Checks.end("EdgesOfDaysTest");
    }

    /** "TODAY (0 at first ..)". */
    private static void today0AtFirst() {
        EnginesOnList x = new EnginesOnList();
        Checks.due("count(1)", x.count(1), 0);
        Checks.due("image()", x.image(), 0);
        Checks.due("rest(1)", x.rest(1), 1);
    }

    /** "n DAYS (1 .. 60) go by: TODAY. -4; -6 (60 ..)." */
    private static void restFrom1To60() {
        EnginesOnList x = new EnginesOnList();
        Checks.refused(x, "rest(0)", () -> x.rest(0), -4);
        Checks.refused(x, "rest(-1)", () -> x.rest(-1), -4);
        Checks.refused(x, "rest(61)", () -> x.rest(61), -6);
        Checks.due("count(1)", x.count(1), 0);
        Checks.due("rest(1)", x.rest(1), 1);
        Checks.due("rest(60)", x.rest(60), 61);
        Checks.due("rest(59)", x.rest(59), 120);
        Checks.due("count(1)", x.count(1), 120);
        Checks.due("count(2), nobody stood", x.count(2), 0);
    }

    /** "999 at most", "-6 (.. above 999)": each n that leads to 999, and one more. */
    private static void restTo999AtMost() {
        for (int n = 1; n <= 60; n++) {
            int days = n;
            EnginesOnList x = new EnginesOnList();
            Checks.restTo(x, 1000 - n);
            Checks.refused(x, "rest(" + n + ") to 1000", () -> x.rest(days), -6);
            Checks.due("count(1)", x.count(1), 1000 - n);
            EnginesOnList y = new EnginesOnList();
            Checks.restTo(y, 999 - n);
            Checks.due("rest(" + n + ") to 999", y.rest(n), 999);
            Checks.refused(y, "rest(1) at 999", () -> y.rest(1), -6);
            Checks.refused(y, "rest(0) at 999", () -> y.rest(0), -4);
            Checks.due("count(1)", y.count(1), 999);
        }
    }

    /** "STAND: how much was NEW. -1; -6 TODAY is 999." */
    private static void standTo999AtMost() {
        EnginesOnList x = Checks.with("e10k00000000;e11k40000000;");
        Checks.restTo(x, 997);
        Checks.due("stand(0) at 997", x.stand(0), 1);
        Checks.due("stand(4) at 998", x.stand(4), 1);
        Checks.due("count(1)", x.count(1), 999);
        x.underline(0, 0);
        Checks.refused(x, "stand(0) at 999", () -> x.stand(0), -6);
        Checks.refused(x, "stand(4) at 999", () -> x.stand(4), -6);
        Checks.refused(x, "stand(-1) at 999", () -> x.stand(-1), -1);
        Checks.refused(x, "stand(5) at 999", () -> x.stand(5), -1);
        Checks.due("count(1)", x.count(1), 999);
        Checks.due("count(2)", x.count(2), 1);
    }

    /** Without ENGINES, and with one in its shed, nothing is NEW and TODAY is 1 more all the same. */
    private static void standWhereNothingPasses() {
        EnginesOnList x = new EnginesOnList();
        Checks.due("stand(0) without engines", x.stand(0), 0);
        Checks.due("stand(4) without engines", x.stand(4), 0);
        Checks.due("count(1)", x.count(1), 2);
        EnginesOnList y = Checks.with("e10n09999999;");
        for (int place = 0; place < 5; place++) {
            Checks.due("stand(" + place + ")", y.stand(place), 0);
        }
        Checks.due("count(1)", y.count(1), 5);
        Checks.due("count(2)", y.count(2), 0);
        Checks.refused(y, "stand(5)", () -> y.stand(5), -1);
        Checks.refused(y, "stand(9)", () -> y.stand(9), -1);
        Checks.refused(y, "stand(-1)", () -> y.stand(-1), -1);
        Checks.due("count(1)", y.count(1), 5);
    }

    private static void standWhereAllPass() {
        EnginesOnList x = Checks.with(SEVEN, OF_THEM);
        Checks.due("stand(0), all seven", x.stand(0), 7);
        Checks.due("count(2)", x.count(2), 7);
        Checks.due("count(3)", x.count(3), 0);
        Checks.due("stand(0), nothing is new", x.stand(0), 0);
        EnginesOnList y = Checks.with(NAMES, MORE_NAMES);
        Checks.due("stand(0), all seven named", y.stand(0), 14);
    }

    /** "all that PASS are underlined .. how much of it was NEW": of it, not of all; those he had stay underlined. */
    private static void standUnderlinesAllThatPass() {
        EnginesOnList x = Checks.with("e10c00000000;e11c00000000;e12c00000000;e13c01111111;", "j1011;u10;u13;");
        Checks.due("stand(0), one new, one joined to one he has", x.stand(0), 1);
        int[] underlined = {1, 1, 1, 1};
        for (int e = 0; e < underlined.length; e++) {
            Checks.due("engine(" + e + ", 4)", x.engine(e, 4), underlined[e]);
        }
        EnginesOnList y = Checks.with("e10c00000000;e11c01111111;j1011;");
        Checks.due("stand(1)", y.stand(1), 1);
        Checks.due("engine(0, 4), it did not pass", y.engine(0, 4), 0);
        Checks.due("engine(0, 6), but he has it", y.engine(0, 6), 1);
    }

    /** He stands TODAY: on day 6 by week 0, on day 7 by week 1. */
    private static void standOnBothSidesOfAWeek() {
        EnginesOnList x = Checks.with("e10x10000000;e11w09999990;e12w00999999;");
        x.rest(6);
        Checks.due("stand(0) on day 6", x.stand(0), 1);
        Checks.due("count(1)", x.count(1), 7);
        x.underline(0, 0);
        Checks.due("stand(0) on day 7", x.stand(0), 1);
        Checks.due("engine(0, 4)", x.engine(0, 4), 0);
        Checks.due("engine(2, 4)", x.engine(2, 4), 1);
    }

    /** "Underlined (1), or not (0): what it was. -1; -2." */
    private static void underlinedOrNot() {
        EnginesOnList x = Checks.with("e10k00000000;e11k00000000;");
        for (int e = 0; e <= 1; e++) {
            Checks.due("underline(" + e + ", 0)", x.underline(e, 0), 0);
            Checks.due("underline(" + e + ", 1)", x.underline(e, 1), 0);
            Checks.due("underline(" + e + ", 1) again", x.underline(e, 1), 1);
            Checks.due("count(2)", x.count(2), e + 1);
        }
        Checks.due("underline(0, 0)", x.underline(0, 0), 1);
        Checks.due("underline(0, 0) again", x.underline(0, 0), 0);
        Checks.due("engine(1, 4)", x.engine(1, 4), 1);
        for (int is : new int[] {-1, 2, 3, Integer.MIN_VALUE, Integer.MAX_VALUE}) {
            Checks.refused(x, "underline(1, " + is + ")", () -> x.underline(1, is), -2);
            Checks.refused(x, "underline(0, " + is + ")", () -> x.underline(0, is), -2);
            Checks.refused(x, "underline(2, " + is + ")", () -> x.underline(2, is), -1);
            Checks.refused(x, "underline(-1, " + is + ")", () -> x.underline(-1, is), -1);
        }
        Checks.due("count(2)", x.count(2), 1);
        Checks.due("count(1), no day went by", x.count(1), 0);
    }

    /** "A LIST: ENGINES that are underlined": from none to all seven and back. */
    private static void listOfNoneAndOfAll() {
        EnginesOnList x = Checks.with(SEVEN, OF_THEM);
        for (int e = 0; e < 7; e++) {
            Checks.due("count(2)", x.count(2), e);
            Checks.due("count(3)", x.count(3), 7 - e);
            x.underline(e, 1);
        }
        Checks.due("count(2), all", x.count(2), 7);
        Checks.due("count(3), none", x.count(3), 0);
        for (int e = 0; e < 7; e++) {
            Checks.due("engine(" + e + ", 6)", x.engine(e, 6), 1);
            x.underline(e, 0);
            Checks.due("engine(" + e + ", 6) no more", x.engine(e, 6), 0);
            Checks.due("count(2)", x.count(2), 6 - e);
        }
    }

    /** "HE HAS an ENGINE, if it is on the LIST, or one JOINED to it is": neither, the lesser, the greater, both. */
    private static void heHasWhatIsJoined() {
        EnginesOnList x = Checks.with("e10k00000000;e11k00000000;e12k00000000;j1210;");
        for (int bits = 0; bits <= 3; bits++) {
            x.underline(0, bits & 1);
            x.underline(2, bits >> 1);
            int has = bits == 0 ? 0 : 1;
            Checks.due("engine(0, 6), " + bits, x.engine(0, 6), has);
            Checks.due("engine(2, 6), " + bits, x.engine(2, 6), has);
            Checks.due("engine(0, 4), " + bits, x.engine(0, 4), bits & 1);
            Checks.due("engine(2, 4), " + bits, x.engine(2, 4), bits >> 1);
            Checks.due("engine(1, 6), not joined, " + bits, x.engine(1, 6), 0);
            Checks.due("count(3), " + bits, x.count(3), 2 - has);
        }
    }

    /** "NEW ones: those he has not; each counts 1." */
    private static void newOnesEachCount1() {
        EnginesOnList x = new EnginesOnList();
        Checks.due("count(3) without engines", x.count(3), 0);
        String kinds = "cawkxs";
        for (int e = 0; e < 6; e++) {
            Checks.land(x, "e" + (10 + e) + kinds.charAt(e) + "09999999;");
            Checks.due("count(3), one more, in its shed", x.count(3), e + 1);
        }
    }

    /** "(NAMED 2)", up to all seven. */
    private static void namedOnesCount2() {
        EnginesOnList x = Checks.with(NAMES, MORE_NAMES);
        for (int e = 0; e < 7; e++) {
            Checks.due("count(3)", x.count(3), 14 - 2 * e);
            Checks.due("fresh(0, 1)", x.fresh(0, 1), 14 - 2 * e);
            Checks.due("ever()", x.ever(), 14 - 2 * e);
            Checks.due("plan(1, 0, -1)", x.plan(1, 0, -1), 14 - 2 * e);
            x.underline(e, 1);
        }
        Checks.due("count(3)", x.count(3), 0);
    }

    /** "JOINED ones together once": three pairs and one alone. */
    private static void joinedOnesOnce() {
        EnginesOnList x = Checks.with(SEVEN, OF_THEM, "j1016;j1115;j1214;");
        Checks.due("count(3)", x.count(3), 4);
        Checks.due("fresh(0, 14)", x.fresh(0, 14), 4);
        Checks.due("ever()", x.ever(), 4);
        Checks.due("plan(5, 20, -1)", x.plan(5, 20, -1), 4);
        Checks.due("seeds(30, 0)", x.seeds(30, 0), 4);
        x.underline(6, 1);
        Checks.due("count(3), one pair is had", x.count(3), 3);
        x.underline(0, 1);
        Checks.due("count(3), the same pair", x.count(3), 3);
        Checks.due("stand(0)", x.stand(0), 3);
        Checks.due("count(2)", x.count(2), 7);
    }

    /** "as the lesser of them": the lesser ENGINE, in whichever order "j" tells them. */
    private static void joinedAsTheLesser() {
        for (String pair : new String[] {"j1112;", "j1211;"}) {
            EnginesOnList lesser = Checks.with("e10k00000000;e11n00000000;e12c00000000;" + pair);
            Checks.due("count(3), the lesser is named", lesser.count(3), 3);
            Checks.due("stand(0), the lesser is named", lesser.stand(0), 3);
            EnginesOnList greater = Checks.with("e10k00000000;e11c00000000;e12n00000000;" + pair);
            Checks.due("count(3), the greater is named", greater.count(3), 2);
            Checks.due("stand(0), the greater is named", greater.stand(0), 2);
            EnginesOnList both = Checks.with("e10k00000000;e11n00000000;e12n00000000;" + pair);
            Checks.due("count(3), both are named", both.count(3), 3);
        }
        EnginesOnList backwards = Checks.with("e90n00000000;e10c00000000;j1090;");
        Checks.due("count(3), the lesser engine has the greater number", backwards.count(3), 2);
    }

    /** They are one from the "j" on, also what was underlined before it. */
    private static void joinedAfterwards() {
        EnginesOnList x = Checks.with("e10n00000000;e11c00000000;e12c00000000;", "u11;");
        Checks.due("count(3)", x.count(3), 3);
        x.image();
        Checks.land(x, "j1110;");
        Checks.due("count(3), joined", x.count(3), 1);
        Checks.due("engine(0, 6)", x.engine(0, 6), 1);
        x.on();
        Checks.due("count(3), no more", x.count(3), 3);
    }

    /** An ENGINE that comes every second week alone, on its first day: from day 1 on it is 13 days off. */
    private static EnginesOnList comesEverySecondWeek(int place) {
        return Checks.with("e10s0" + place + "999999;e11c09999999;");
    }

    /** "FRESH of a PLACE in n DAYS (1 .. 14) from TODAY on": the first, the n-th and the one behind it. */
    private static void freshFrom1To14() {
        for (int place = 0; place < 5; place++) {
            EnginesOnList x = comesEverySecondWeek(place);
            int there = place;
            Checks.due("fresh(" + place + ", 1)", x.fresh(place, 1), 1);
            Checks.due("fresh elsewhere", x.fresh((place + 1) % 5, 14), 0);
            x.rest(1);
            for (int n = 1; n <= 13; n++) {
                Checks.due("fresh(" + place + ", " + n + ")", x.fresh(place, n), 0);
            }
            Checks.due("fresh(" + place + ", 14)", x.fresh(place, 14), 1);
            Checks.refused(x, "fresh(" + place + ", 0)", () -> x.fresh(there, 0), -4);
            Checks.refused(x, "fresh(" + place + ", 15)", () -> x.fresh(there, 15), -6);
            Checks.refused(x, "fresh(-1, 0)", () -> x.fresh(-1, 0), -1);
            Checks.refused(x, "fresh(5, 15)", () -> x.fresh(5, 15), -1);
        }
    }

    /** "how much of what PASSES there is NEW, each once": on however many days it passes. */
    private static void freshEachOnce() {
        EnginesOnList x = Checks.with("e10k00000000;e11n00000000;e12c00909090;e13k10000000;");
        Checks.due("fresh(0, 1)", x.fresh(0, 1), 4);
        Checks.due("fresh(0, 14)", x.fresh(0, 14), 4);
        x.underline(1, 1);
        Checks.due("fresh(0, 14) without the named one", x.fresh(0, 14), 2);
        Checks.land(x, "j1012;");
        Checks.due("fresh(0, 14), joined", x.fresh(0, 14), 1);
        x.underline(0, 1);
        Checks.due("fresh(0, 14), nothing is new", x.fresh(0, 14), 0);
        Checks.due("count(1)", x.count(1), 0);
    }

    /** From 999 on it looks beyond the greatest TODAY. */
    private static void freshAtTheLastToday() {
        EnginesOnList x = Checks.with("e10s04999999;e11c09999999;");
        Checks.restTo(x, 995);
        // Day 994 begins week 142, an even one; the next it comes on is 1008.
        Checks.due("fresh(4, 13) at 995", x.fresh(4, 13), 0);
        Checks.due("fresh(4, 14) at 995", x.fresh(4, 14), 1);
        Checks.restTo(x, 999);
        Checks.due("fresh(4, 9) at 999", x.fresh(4, 9), 0);
        Checks.due("fresh(4, 10) at 999", x.fresh(4, 10), 1);
        Checks.due("fresh(4, 14) at 999", x.fresh(4, 14), 1);
        Checks.due("where(10) at 999", x.where(10), 4);
        Checks.due("where(9) at 999", x.where(9), 0);
    }

    /** "JOINED ones together once, as the lesser of them", also on days and at places where the greater passes alone. */
    private static void freshOfOnlyTheGreater() {
        EnginesOnList x = Checks.with("e10n01999999;e11c09099999;j1011;");
        Checks.due("fresh(1, 1), the lesser", x.fresh(1, 1), 2);
        Checks.due("fresh(0, 1)", x.fresh(0, 1), 0);
        Checks.due("fresh(0, 2), the greater as the lesser", x.fresh(0, 2), 2);
        EnginesOnList y = Checks.with("e10c01999999;e11n01099999;j1011;");
        Checks.due("fresh(1, 1), both", y.fresh(1, 1), 1);
        Checks.due("fresh(0, 2), the greater as the lesser", y.fresh(0, 2), 1);
    }

    /** "WHERE: the PLACE with most FRESH in n DAYS". "-4; -6 14." */
    private static void whereFrom1To14() {
        for (int place = 0; place < 5; place++) {
            EnginesOnList x = comesEverySecondWeek(place);
            Checks.due("where(1)", x.where(1), place);
            x.rest(1);
            Checks.due("where(13), nothing comes", x.where(13), 0);
            Checks.due("where(14)", x.where(14), place);
            Checks.refused(x, "where(0)", () -> x.where(0), -4);
            Checks.refused(x, "where(15)", () -> x.where(15), -6);
        }
    }

    /** "of several the least": nothing NEW anywhere, two, all five; a NAMED one is more than one that is not. */
    private static void whereOfSeveralTheLeast() {
        Checks.due("where(14) without engines", new EnginesOnList().where(14), 0);
        EnginesOnList x = Checks.with("e10k40000000;e11k30000000;e12k20000000;e13k10000000;", "e14k00000000;");
        Checks.due("where(1), all alike", x.where(1), 0);
        x.underline(4, 1);
        Checks.due("where(1), four alike", x.where(1), 1);
        x.underline(3, 1);
        Checks.due("where(1), three alike", x.where(1), 2);
        Checks.land(x, "e15n04444444;");
        Checks.due("where(1), a named one", x.where(1), 4);
        x.underline(0, 1);
        Checks.due("where(1), a named one alone", x.where(1), 4);
        Checks.land(x, "e16k20000000;");
        Checks.due("where(1), a named one is as two", x.where(1), 2);
        x.underline(1, 1);
        x.underline(2, 1);
        x.underline(5, 1);
        x.underline(6, 1);
        Checks.due("where(1), nothing is new", x.where(1), 0);
    }

    /** "n DAYS (1 .. 30)". "-4; -6 30." Any seed. */
    private static void seedsFrom1To30() {
        EnginesOnList x = Checks.with("e10k00000000;");
        for (int z : SEEDS) {
            Checks.refused(x, "seeds(0, " + z + ")", () -> x.seeds(0, z), -4);
            Checks.refused(x, "seeds(31, " + z + ")", () -> x.seeds(31, z), -6);
            Checks.due("seeds(30, " + z + ")", x.seeds(30, z), 1);
        }
    }

    /** "A DRAW .. (an int) .. without its sign's bit by 256, cut": each of thirty draws, of seeds that wrap around. */
    private static void seedsByTheirDraws() {
        for (int s = 0; s < SEEDS.length; s++) {
            for (int weekday = 0; weekday < 7; weekday++) {
                for (int place = 0; place < 5; place++) {
                    StringBuilder turn = new StringBuilder("9999999");
                    turn.setCharAt(weekday, (char) ('0' + place));
                    EnginesOnList x = Checks.with("e10c0" + turn + ";");
                    seedsOfOne(x, s, weekday, place);
                }
            }
        }
    }

    private static void seedsOfOne(EnginesOnList x, int s, int weekday, int place) {
        int seen = 0;
        for (int n = 1; n <= 30; n++) {
            if ((n - 1) % 7 == weekday && DRAWS[s].charAt(n - 1) - '0' == place) {
                seen = 1;
            }
            Checks.due("seeds(" + n + ", " + SEEDS[s] + "), at " + place + " on " + weekday, x.seeds(n, SEEDS[s]), seen);
        }
    }

    /** "(in mind): how much is NEW altogether": each once; TODAY and the LIST stay. */
    private static void seedsOfNoneAndOfAll() {
        Checks.due("seeds(30, 0) without engines", new EnginesOnList().seeds(30, 0), 0);
        EnginesOnList x = Checks.with("e10k00000000;e11k10000000;e12n02222222;e13k30000000;", "e14k40000000;e15n00000000;");
        // The draws of 0 begin with 3, 2, 1, 4, 4, 0.
        int[] wanted = {1, 3, 4, 5, 5, 8, 8};
        for (int n = 1; n <= wanted.length; n++) {
            Checks.due("seeds(" + n + ", 0)", x.seeds(n, 0), wanted[n - 1]);
        }
        Checks.land(x, "j1015;j1114;");
        Checks.due("seeds(6, 0), joined", x.seeds(6, 0), 5);
        Checks.due("count(1)", x.count(1), 0);
        Checks.due("count(2)", x.count(2), 0);
        for (int e = 0; e < 6; e++) {
            x.underline(e, 1);
        }
        Checks.due("seeds(30, 0), nothing is new", x.seeds(30, 0), 0);
    }

    /** "from TODAY on": in mind he stands beyond 999 too. */
    private static void seedsAtTheLastToday() {
        EnginesOnList x = Checks.with("e10c09999939;");
        Checks.restTo(x, 999);
        // Day 999 is a fifth day of the week, as is every seventh behind it. The first draw of 0 is 3; of the
        // draws of 1 the first, the eighth, the fifteenth are not, the twenty-second is.
        Checks.due("seeds(1, 0) at 999", x.seeds(1, 0), 1);
        Checks.due("seeds(21, 1) at 999", x.seeds(21, 1), 0);
        Checks.due("seeds(22, 1) at 999", x.seeds(22, 1), 1);
        Checks.due("count(1)", x.count(1), 999);
    }
}
