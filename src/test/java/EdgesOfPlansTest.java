/**
 * The edges of PLAN, WAIT, CHASE, EVER, ALL in "Terms", and of promises 13 to 17: each method has the sentence it
 * looks at.
 */
public final class EdgesOfPlansTest {
    /** Each comes once in the week, on the days 0 to 4 and at the places 0, 4, 0, 4, 0. */
    private static final String FIVE = "e10c00999999;e11c09499999;e12c09909999;e13c09994999;";
    private static final String FIFTH = "e14c09999099;";

    public static void main(String[] args) {
        planFrom1To5Days();
        planFrom0To20Coins();
        planToTheLastCoin();
        planCostsNothingToBegin();
        planByTheFirstOfSeveral();
        planOfNothingNew();
        planOfEachPlace();
        planNoneSuch();
        planBelowAndAbove();
        planOfNamedAndJoined();
        planChangesNothing();
        planAtTheLastToday();
        await0AndTheLongest();
        awaitNever();
        awaitEither();
        awaitAtTheLastToday();
        chase0AndTheLongest();
        chaseNever();
        everFromTodayOn();
        everOfNoneAndOfAll();
        everOfJoined();
        all0IfNothingIsNew();
        allFrom1To5();
        allNotBy5();
        allByAnyCoin();
        allOfJoined();
        allAtTheLastToday();
        Checks.end("EdgesOfPlansTest");
    }

    /** How much, each PLACE, and no PLACE behind the last. */
    private static void plan(EnginesOnList x, int n, int coin, int worth, String places) {
        Checks.due("plan(" + n + ", " + coin + ", -1)", x.plan(n, coin, -1), worth);
        Checks.due("places told of plan(" + n + ", " + coin + ")", places.length(), n);
        for (int i = 0; i < n; i++) {
            Checks.due("plan(" + n + ", " + coin + ", " + i + ")", x.plan(n, coin, i), places.charAt(i) - '0');
        }
        Checks.due("plan(" + n + ", " + coin + ", " + n + ")", x.plan(n, coin, n), -9);
    }

    /** "PLAN for n DAYS (1 .. 5)": the n-th DAY counts, the one behind it does not. */
    private static void planFrom1To5Days() {
        EnginesOnList x = Checks.with(FIVE, FIFTH);
        String places = "04040";
        for (int n = 1; n <= 5; n++) {
            plan(x, n, 20, n, places.substring(0, n));
        }
        EnginesOnList sixth = Checks.with("e10c09999919;");
        plan(sixth, 5, 20, 0, "00000");
        sixth.rest(1);
        plan(sixth, 4, 20, 0, "0000");
        plan(sixth, 5, 20, 1, "00001");
        sixth.rest(4);
        plan(sixth, 1, 0, 1, "1");
    }

    /** "and coin c (0 .. 20)": with 0 he stays, with 4 he gets from either end to the other. */
    private static void planFrom0To20Coins() {
        EnginesOnList x = Checks.with(FIVE, FIFTH);
        int[] worths = {3, 3, 3, 3, 3, 3, 3, 3, 4, 4, 4, 4, 4, 4, 4, 4, 5, 5, 5, 5, 5};
        for (int coin = 0; coin <= 20; coin++) {
            Checks.due("plan(5, " + coin + ", -1)", x.plan(5, coin, -1), worths[coin]);
        }
        plan(x, 5, 0, 3, "00000");
        plan(x, 5, 20, 5, "04040");
    }

    /** "it costs the difference of PLACES from DAY to DAY": up and down alike; just enough, and one less. */
    private static void planToTheLastCoin() {
        for (int from = 0; from < 5; from++) {
            for (int to = 0; to < 5; to++) {
                EnginesOnList x = Checks.with("e10c0" + from + "999999;e11c09" + to + "99999;");
                int fare = Math.abs(from - to);
                plan(x, 2, fare, 2, "" + from + to);
                if (fare > 0) {
                    Checks.due("plan(2, " + (fare - 1) + ", -1)", x.plan(2, fare - 1, -1), 1);
                }
            }
        }
        EnginesOnList x = Checks.with(FIVE, FIFTH);
        plan(x, 5, 16, 5, "04040");
        plan(x, 5, 15, 4, "00040");
        plan(x, 5, 8, 4, "00040");
        plan(x, 5, 7, 3, "00000");
        plan(x, 2, 4, 2, "04");
        plan(x, 2, 3, 1, "00");
    }

    /** "(from where one begins nothing)": with no coin, from each PLACE. */
    private static void planCostsNothingToBegin() {
        for (int place = 0; place < 5; place++) {
            EnginesOnList x = Checks.with("e10c0" + place + place + "99999;e11c09" + place + "99999;");
            plan(x, 1, 0, 1, "" + place);
            plan(x, 2, 0, 2, "" + place + place);
        }
        EnginesOnList x = Checks.with("e10k40000000;e11k30000000;");
        plan(x, 2, 1, 2, "34");
        plan(x, 1, 0, 1, "3");
    }

    /** "of several the first by PLACES of the first DAY, then the second, ..". */
    private static void planByTheFirstOfSeveral() {
        EnginesOnList x = Checks.with("e10k00000000;e11k40000000;e12k20000000;");
        plan(x, 1, 20, 1, "0");
        plan(x, 2, 2, 2, "02");
        plan(x, 2, 4, 2, "02");
        plan(x, 3, 4, 3, "024");
        plan(x, 4, 4, 3, "0024");
        plan(x, 4, 6, 3, "0024");
        plan(x, 5, 4, 3, "00024");
        EnginesOnList y = Checks.with("e10k40000000;");
        plan(y, 5, 0, 1, "44444");
        plan(y, 5, 3, 1, "11114");
        plan(y, 5, 4, 1, "00004");
        EnginesOnList days = Checks.with("e10c03999999;e11c09399999;e12c09939999;e13c01119999;");
        plan(days, 3, 0, 3, "333");
        plan(days, 3, 2, 3, "133");
        plan(days, 3, 1, 3, "333");
    }

    /** Where nothing is NEW, and where nothing passes, the first of all: 0 on each DAY. */
    private static void planOfNothingNew() {
        for (int n = 1; n <= 5; n++) {
            plan(new EnginesOnList(), n, 0, 0, "00000".substring(0, n));
            plan(Checks.with("e10n09999999;"), n, 20, 0, "00000".substring(0, n));
            EnginesOnList x = Checks.with("e10n04444444;");
            Checks.due("plan(5, 0, 4) while it is new", x.plan(5, 0, 4), 4);
            x.underline(0, 1);
            plan(x, n, 20, 0, "00000".substring(0, n));
        }
    }

    /** "the i-th PLACE": each PLACE on each DAY. */
    private static void planOfEachPlace() {
        EnginesOnList x = Checks.with("e10c04999999;e11c09399999;e12c09929999;e13c09991999;", "e14c09999099;");
        plan(x, 5, 4, 5, "43210");
        EnginesOnList y = Checks.with("e10c02999999;e11c09499999;e12c09919999;e13c09993999;", "e14c09999099;");
        plan(y, 5, 10, 5, "24130");
        Checks.due("plan(5, 9, -1)", y.plan(5, 9, -1), 4);
    }

    /** "-9 none such": from n on. */
    private static void planNoneSuch() {
        EnginesOnList x = Checks.with("e10k40000000;");
        for (int n = 1; n <= 5; n++) {
            Checks.due("plan(" + n + ", 0, " + (n - 1) + ")", x.plan(n, 0, n - 1), 4);
            Checks.due("plan(" + n + ", 0, " + n + ")", x.plan(n, 0, n), -9);
            Checks.due("plan(" + n + ", 0, 5)", x.plan(n, 0, 5), -9);
            Checks.due("plan(" + n + ", 0, max)", x.plan(n, 0, Integer.MAX_VALUE), -9);
        }
        for (int what = 11; what <= 16; what++) {
            Checks.due("count(" + what + "), no refusal", x.count(what), 0);
        }
    }

    /** "-4 (n below 1, coin below 0, i below -1); -6 (5; 20)": each, and -4 before -6. */
    private static void planBelowAndAbove() {
        EnginesOnList x = Checks.with("e10k40000000;");
        Checks.due("plan(1, 0, -1)", x.plan(1, 0, -1), 1);
        Checks.due("plan(5, 20, -1)", x.plan(5, 20, -1), 1);
        Checks.refused(x, "plan(0, 0, -1)", () -> x.plan(0, 0, -1), -4);
        Checks.refused(x, "plan(1, -1, -1)", () -> x.plan(1, -1, -1), -4);
        Checks.refused(x, "plan(1, 0, -2)", () -> x.plan(1, 0, -2), -4);
        Checks.refused(x, "plan(6, 0, -1)", () -> x.plan(6, 0, -1), -6);
        Checks.refused(x, "plan(1, 21, -1)", () -> x.plan(1, 21, -1), -6);
        Checks.refused(x, "plan(0, 21, -1)", () -> x.plan(0, 21, -1), -4);
        Checks.refused(x, "plan(6, -1, -1)", () -> x.plan(6, -1, -1), -4);
        Checks.refused(x, "plan(6, 21, -2)", () -> x.plan(6, 21, -2), -4);
        Checks.refused(x, "plan(6, 0, 6)", () -> x.plan(6, 0, 6), -6);
        Checks.refused(x, "plan(1, 21, 1)", () -> x.plan(1, 21, 1), -6);
    }

    /** "most NEW altogether": each once, NAMED 2, JOINED ones once. */
    private static void planOfNamedAndJoined() {
        EnginesOnList x = Checks.with("e10k00000000;e11n01111111;e12c02299999;");
        plan(x, 1, 0, 2, "1");
        plan(x, 2, 1, 3, "01");
        plan(x, 3, 4, 4, "021");
        x.underline(1, 1);
        plan(x, 2, 2, 2, "02");
        EnginesOnList pair = Checks.with("e10k00000000;e11k10000000;e12k20000000;j1011;");
        plan(pair, 2, 1, 2, "12");
        plan(pair, 3, 3, 2, "002");
        EnginesOnList all = Checks.with("e10n00000000;e11n00000000;e12n00000000;e13n00000000;",
                "e14n00000000;e15n00000000;e16n04444444;");
        plan(all, 1, 0, 12, "0");
        plan(all, 2, 4, 14, "04");
    }

    private static void planChangesNothing() {
        EnginesOnList x = Checks.with(FIVE, FIFTH);
        x.plan(5, 20, -1);
        x.all();
        Checks.due("count(1)", x.count(1), 0);
        Checks.due("count(2)", x.count(2), 0);
        Checks.due("count(3)", x.count(3), 5);
    }

    /** From 999 on it looks beyond the greatest TODAY: day 999 is a day of the week 5, 1003 is 2. */
    private static void planAtTheLastToday() {
        EnginesOnList x = Checks.with("e10c09949939;");
        Checks.restTo(x, 999);
        plan(x, 1, 0, 1, "3");
        EnginesOnList y = Checks.with("e10c09929999;");
        Checks.restTo(y, 999);
        plan(y, 4, 20, 0, "0000");
        plan(y, 5, 20, 1, "00002");
        Checks.due("all() at 999", y.all(), 5);
    }

    /** "in how many DAYS (0 .. 60) from TODAY it passes there first": the longest that any KIND lets one wait is 13. */
    private static void await0AndTheLongest() {
        for (int place = 0; place < 5; place++) {
            EnginesOnList x = Checks.with("e10s0" + place + "999999;e11c09999999;");
            Checks.due("await(0, " + place + ") on day 0", x.await(0, place), 0);
            x.rest(1);
            Checks.due("await(0, " + place + ") on day 1", x.await(0, place), 13);
            x.rest(12);
            Checks.due("await(0, " + place + ") on day 13", x.await(0, place), 1);
            x.rest(1);
            Checks.due("await(0, " + place + ") on day 14", x.await(0, place), 0);
        }
        EnginesOnList x = Checks.with("e10c00101234;");
        int[] days = {0, 1, 4, 5, 6};
        for (int place = 0; place < 5; place++) {
            Checks.due("await(0, " + place + ")", x.await(0, place), days[place]);
        }
        x.underline(0, 1);
        Checks.due("await(0, 4), had or not", x.await(0, 4), 6);
    }

    /** "-9": elsewhere for ever, in its shed, scrapped. */
    private static void awaitNever() {
        EnginesOnList x = Checks.with("e10k00000000;e11a01111111;e12x12222223;e13c09999999;");
        Checks.due("await(0, 0)", x.await(0, 0), 0);
        Checks.due("await(0, 1)", x.await(0, 1), -9);
        Checks.due("await(2, 0), it is elsewhere", x.await(2, 0), -9);
        Checks.due("await(1, 1)", x.await(1, 1), -9);
        Checks.due("await(3, 4)", x.await(3, 4), -9);
        x.rest(6);
        Checks.due("await(2, 3) on its last day", x.await(2, 3), 0);
        Checks.due("await(2, 2) on its last day", x.await(2, 2), -9);
        x.rest(1);
        Checks.due("await(2, 3) behind it", x.await(2, 3), -9);
        Checks.due("count(11), no refusal", x.count(11), 0);
    }

    /** "-1 either": no such ENGINE, no such PLACE, and both are one REFUSAL. */
    private static void awaitEither() {
        EnginesOnList x = Checks.with("e10c09999999;");
        Checks.due("await(0, 4)", x.await(0, 4), -9);
        Checks.refused(x, "await(1, 0)", () -> x.await(1, 0), -1);
        Checks.refused(x, "await(-1, 4)", () -> x.await(-1, 4), -1);
        Checks.refused(x, "await(0, 5)", () -> x.await(0, 5), -1);
        Checks.refused(x, "await(0, -1)", () -> x.await(0, -1), -1);
        Checks.refused(x, "await(0, 9)", () -> x.await(0, 9), -1);
        Checks.refused(x, "await(7, 9)", () -> x.await(7, 9), -1);
        Checks.due("count(11)", x.count(11), 6);
    }

    /** Day 999 is a day of the week 5 of an even week, 142; the next even one begins with day 1008. */
    private static void awaitAtTheLastToday() {
        EnginesOnList x = Checks.with("e10s04999939;e11c09999999;");
        Checks.restTo(x, 999);
        Checks.due("await(0, 3)", x.await(0, 3), 0);
        Checks.due("await(0, 4)", x.await(0, 4), 9);
        Checks.due("chase(0)", x.chase(0), 0);
        Checks.due("await(1, 4)", x.await(1, 4), -9);
    }

    /** "CHASE: in how many it IS at any PLACE". "-1." */
    private static void chase0AndTheLongest() {
        EnginesOnList x = Checks.with("e10s00999994;e11c09999999;e12k49999999;");
        Checks.due("chase(0)", x.chase(0), 0);
        Checks.due("chase(2)", x.chase(2), 0);
        x.rest(1);
        Checks.due("chase(0)", x.chase(0), 5);
        x.rest(5);
        Checks.due("chase(0)", x.chase(0), 0);
        x.rest(1);
        Checks.due("chase(0)", x.chase(0), 7);
        for (int place = 0; place < 5; place++) {
            EnginesOnList longest = Checks.with("e10s0" + place + "999999;e11c09999999;");
            longest.rest(1);
            Checks.due("chase(0), the longest", longest.chase(0), 13);
        }
        Checks.refused(x, "chase(3)", () -> x.chase(3), -1);
        Checks.refused(x, "chase(-1)", () -> x.chase(-1), -1);
        EnginesOnList none = new EnginesOnList();
        Checks.refused(none, "chase(0) without engines", () -> none.chase(0), -1);
    }

    /** "-9": each KIND that can stay in its shed for ever. */
    private static void chaseNever() {
        EnginesOnList x = Checks.with("e10a00000000;e11x00000000;e12c09999999;e13w09999999;",
                "e14n09999999;e15s09999999;e16k09999999;");
        for (int e = 0; e < 5; e++) {
            Checks.due("chase(" + e + ")", x.chase(e), -9);
        }
        Checks.due("chase(5), the next is in its shed by its turn", x.chase(5), -9);
        Checks.due("chase(6), kept", x.chase(6), 0);
        EnginesOnList y = Checks.with("e10x90000009;");
        Checks.restTo(y, 61);
        Checks.due("chase(0) on day 61", y.chase(0), 0);
        y.rest(1);
        Checks.due("chase(0) on day 62", y.chase(0), -9);
    }

    /** "EVER: how much NEW there is that IS at any PLACE on some DAY from TODAY ..": on TODAY still, then no more. */
    private static void everFromTodayOn() {
        for (int figure = 1; figure <= 9; figure++) {
            EnginesOnList x = Checks.with("e10x" + figure + "9999994;");
            Checks.due("ever() on day 0", x.ever(), 1);
            Checks.restTo(x, 7 * figure - 1);
            Checks.due("ever() on its last day", x.ever(), 1);
            x.rest(1);
            Checks.due("ever() behind it", x.ever(), 0);
            Checks.due("count(3), new all the same", x.count(3), 1);
        }
        EnginesOnList y = Checks.with("e10s04999999;e11c09999999;");
        y.rest(1);
        Checks.due("ever(), 13 days off", y.ever(), 1);
        Checks.restTo(y, 999);
        Checks.due("ever() at 999", y.ever(), 1);
    }

    /** Nothing is NEW, nothing comes, all come. */
    private static void everOfNoneAndOfAll() {
        Checks.due("ever() without engines", new EnginesOnList().ever(), 0);
        EnginesOnList x = Checks.with("e10a09999999;e11x09999999;e12c09999999;e13n09999999;");
        Checks.due("ever(), all in their sheds", x.ever(), 0);
        EnginesOnList y = Checks.with("e10c09999990;e11a14999999;e12w01111111;e13k00000000;",
                "e14x99999999;e15s09999999;e16n02222222;");
        Checks.due("ever(), all but the fifth", y.ever(), 7);
        for (int e = 0; e < 7; e++) {
            y.underline(e, 1);
        }
        Checks.due("ever(), nothing is new", y.ever(), 0);
    }

    /** One of a pair that comes is enough; it counts as the lesser. */
    private static void everOfJoined() {
        EnginesOnList x = Checks.with("e10n09999999;e11k00000000;j1011;");
        Checks.due("ever(), only the greater comes", x.ever(), 2);
        EnginesOnList y = Checks.with("e10k00000000;e11n09999999;j1011;");
        Checks.due("ever(), only the lesser comes", y.ever(), 1);
        EnginesOnList z = Checks.with("e10c09999999;e11c09999999;j1011;");
        Checks.due("ever(), neither comes", z.ever(), 0);
        y.underline(1, 1);
        Checks.due("ever(), the other is had", y.ever(), 0);
    }

    /** "0 nothing is NEW". */
    private static void all0IfNothingIsNew() {
        Checks.due("all() without engines", new EnginesOnList().all(), 0);
        EnginesOnList x = Checks.with("e10k00000000;e11c09999999;", "u10;u11;");
        Checks.due("all(), all are had", x.all(), 0);
        x.underline(1, 0);
        Checks.due("all(), one in its shed is not", x.all(), -9);
        Checks.land(x, "j1011;");
        Checks.due("all(), it is joined to one he has", x.all(), 0);
    }

    /** "the least n (1 .. 5)": each of them. */
    private static void allFrom1To5() {
        for (int n = 1; n <= 5; n++) {
            StringBuilder turn = new StringBuilder("9999999");
            turn.setCharAt(n - 1, '2');
            EnginesOnList x = Checks.with("e10k20000000;e11n0" + turn + ";");
            Checks.due("all(), the last comes on day " + (n - 1), x.all(), n);
        }
        EnginesOnList each = Checks.with(FIVE, FIFTH);
        for (int n = 5; n >= 1; n--) {
            Checks.due("all() of " + n, each.all(), n);
            each.underline(n - 1, 1);
        }
        Checks.due("all() of none", each.all(), 0);
    }

    /** "-9": what comes on the sixth DAY, what can't be seen together, what never comes. */
    private static void allNotBy5() {
        EnginesOnList sixth = Checks.with("e10c09999929;");
        Checks.due("all() on day 0", sixth.all(), -9);
        sixth.rest(1);
        Checks.due("all() on day 1", sixth.all(), 5);
        EnginesOnList apart = Checks.with("e10c00999999;e11c01999999;");
        Checks.due("all(), at two places on one day", apart.all(), -9);
        EnginesOnList six = Checks.with("e10k00000000;e11k10000000;e12k20000000;e13k30000000;", "e14k40000000;");
        Checks.due("all() of five places", six.all(), 5);
        Checks.land(six, "e15c00909090;");
        Checks.due("all() of five places and one more, seen at 0", six.all(), 5);
        Checks.land(six, "e16c09999999;");
        Checks.due("all() with one in its shed", six.all(), -9);
        Checks.due("plan(5, 20, -1) with one in its shed", six.plan(5, 20, -1), 6);
    }

    /** "(any coin)": the dearest way costs 16. */
    private static void allByAnyCoin() {
        EnginesOnList x = Checks.with(FIVE, FIFTH);
        Checks.due("all()", x.all(), 5);
        Checks.due("plan(5, 15, -1)", x.plan(5, 15, -1), 4);
        EnginesOnList y = Checks.with("e10c00999999;e11c09499999;");
        Checks.due("all() of two ends", y.all(), 2);
        Checks.due("plan(2, 3, -1)", y.plan(2, 3, -1), 1);
    }

    /** One of a pair brings both. */
    private static void allOfJoined() {
        EnginesOnList x = Checks.with("e10n09999999;e11k30000000;j1011;");
        Checks.due("all(), only the greater comes", x.all(), 1);
        EnginesOnList y = Checks.with("e10c09999909;e11n09929999;j1011;");
        Checks.due("all(), the greater comes first", y.all(), 3);
    }

    private static void allAtTheLastToday() {
        EnginesOnList x = Checks.with("e10c09999990;");
        Checks.restTo(x, 999);
        Checks.due("all() at 999", x.all(), 2);
    }
}
