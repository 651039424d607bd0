import java.util.Random;

/**
 * The sentences of the document that name no boundary case, from its first to its last: each method has the sentence
 * it looks at, as the EdgesOf.. tests have the others.
 */
public final class SentencesTest {
    private static final String KINDS = "cawkxsn";
    /** One of each KIND, all with one TURN but the last. */
    private static final String FOUR = "e10c30123494;e11a30123494;e12w10123494;e13k70123494;";
    private static final String THREE = "e14x20123494;e15s00123494;e16n04321090;";
    private static final String APART = "e10k00000000;e11k10000000;e12k20000000;e13k30000000;";

    public static void main(String[] args) {
        atMost512Calls();
        objectsByThemselves();
        eachWithASemicolonBehind();
        anEngineMore();
        joinedNumberedAnew();
        underlinedByU();
        onTheFriendsListByF();
        thousandLessThePlace();
        twoThousandLessThePlace();
        whereOneIsOnADay();
        asACommon();
        readFromATrain();
        heStandsToday();
        freshWhereAndTheirPlaces();
        planAPlaceEachDay();
        planByAllPlansThereAre();
        waitForAnEngineAtAPlace();
        everTo60DaysOn();
        allThatHeHasNot();
        aReadingMore();
        fittingAndRight();
        clashOfAllTwo();
        pairsOfTwoEngines();
        manyThereAre();
        seedsWithASeed();
        aPlaceMoreOfTheRow();
        onAllIsAsThen();
        theFirstRefusalThatFits();
        whatTheRefusalsAre();
        refusalsOfOneAnswerAreCountedTogether();
        ofAnEngine();
        turnIsAsTold();
        whatIsCounted();
        nothingBeyondWhatIsDescribed();
        Checks.end("SentencesTest");
    }

    /** "An object is used for at most 512 calls after it has been made; what later calls answer is free." */
    private static void atMost512Calls() {
        EnginesOnList x = new EnginesOnList();
        for (int call = 1; call <= 510; call++) {
            Checks.due("rest(0), call " + call, x.rest(0), -4);
        }
        Checks.due("rest(1), call 511", x.rest(1), 1);
        Checks.due("count(14), call 512", x.count(14), 510);
        Random random = new Random(1);
        for (int call = 0; call < 20000; call++) {
            Checks.land(x, "e" + random.nextInt(100) + "c00000000;");
            x.reading(random.nextInt(1200), random.nextInt(6), random.nextInt(110), random.nextInt(5));
            x.row(random.nextInt(11));
            x.stand(random.nextInt(6));
            x.plan(random.nextInt(7), random.nextInt(22), random.nextInt(7) - 2);
            x.image();
        }
        Checks.holds("later calls end, and throw nothing", true);
    }

    /** Each object for itself: what is told to one is not told to another. */
    private static void objectsByThemselves() {
        EnginesOnList x = Checks.with(FOUR, "u10;f11;");
        EnginesOnList y = new EnginesOnList();
        x.image();
        x.row(0);
        x.letter('e');
        x.reading(0, 0, 10, 0);
        x.rest(0);
        Checks.same("of one that was told nothing", y, new EnginesOnList());
        Checks.due("on() of it", y.on(), -3);
        Checks.due("count(14) of it", y.count(14), 0);
        Checks.land(y, THREE);
        y.rest(60);
        Checks.due("count(0)", x.count(0), 4);
        Checks.due("count(1)", x.count(1), 0);
        Checks.due("count(2)", x.count(2), 1);
    }

    /** "STATEMENTS, each with ";" behind": the last too, and one, not two. */
    private static void eachWithASemicolonBehind() {
        String[] statements = {"e14c00000000", "j1011", "u10", "f10"};
        for (String statement : statements) {
            int end = statement.length();
            Checks.due(statement, Checks.land(Checks.with(FOUR), statement), -1000 - end);
            Checks.due(statement + ";", Checks.land(Checks.with(FOUR), statement + ";"), 1);
            Checks.due(statement + ";;", Checks.land(Checks.with(FOUR), statement + ";;"), -1001 - end);
            Checks.due(statement + "u12;", Checks.land(Checks.with(FOUR), statement + "u12;"), -1000 - end);
            Checks.due(statement + ";u12;", Checks.land(Checks.with(FOUR), statement + ";u12;"), 2);
            Checks.due(statement + ",", Checks.land(Checks.with(FOUR), statement + ","), -1000 - end);
        }
    }

    /** ""e" NUMBER (2 digits), .., FIGURE (a digit), then 7 digits (PLACES, or 9): an ENGINE more". */
    private static void anEngineMore() {
        EnginesOnList x = new EnginesOnList();
        Checks.due("land", Checks.land(x, "e47w69043219;"), 1);
        Checks.due("count(0)", x.count(0), 1);
        int[] told = {47, 2, 6, -9, 0, 0, 0};
        int[] turn = {9, 0, 4, 3, 2, 1, 9};
        for (int i = 0; i < 7; i++) {
            Checks.due("engine(0, " + i + ")", x.engine(0, i), told[i]);
            Checks.due("turn(0, " + i + ")", x.turn(0, i), turn[i]);
        }
        Checks.due("land", Checks.land(x, "e74a51111111;"), 1);
        Checks.due("count(0), one more", x.count(0), 2);
        Checks.due("engine(0, 0), as it was", x.engine(0, 0), 47);
        Checks.due("engine(1, 0)", x.engine(1, 0), 74);
    }

    /** ""j" two NUMBERS (2 digits each): JOINED: two ENGINES are one that was numbered anew". */
    private static void joinedNumberedAnew() {
        for (String pair : new String[] {"j1113;", "j1311;"}) {
            EnginesOnList x = Checks.with(APART, pair);
            Checks.due("engine(1, 3)", x.engine(1, 3), 3);
            Checks.due("engine(3, 3)", x.engine(3, 3), 1);
            Checks.due("engine(0, 3)", x.engine(0, 3), -9);
            Checks.due("engine(2, 3)", x.engine(2, 3), -9);
            Checks.due("count(0), they stay two engines", x.count(0), 4);
            Checks.due("count(3), but one new one", x.count(3), 3);
            Checks.due("engine(1, 0), with its number", x.engine(1, 0), 11);
            Checks.due("at(3, 0), at its place", x.at(3, 0), 3);
            Checks.due("stand(3)", x.stand(3), 1);
            Checks.due("stand(1), the same one", x.stand(1), 0);
        }
    }

    /** ""u" a NUMBER: underlined". */
    private static void underlinedByU() {
        onThisListAlone("u", 4, 5, 2);
        EnginesOnList x = Checks.with(APART, "u12;");
        Checks.due("underline(2, 0)", x.underline(2, 0), 1);
    }

    /** ""f" a NUMBER: on the FRIEND's list". */
    private static void onTheFriendsListByF() {
        onThisListAlone("f", 5, 4, 7);
    }

    /** A list as engine() and count() tell of it, and the other list as engine() does. */
    private static void onThisListAlone(String letter, int list, int otherList, int count) {
        for (int e = 0; e < 4; e++) {
            String statement = letter + "1" + e + ";";
            EnginesOnList x = Checks.with(APART, statement);
            for (int one = 0; one < 4; one++) {
                Checks.due("engine(" + one + ", " + list + ")", x.engine(one, list), one == e ? 1 : 0);
                Checks.due("engine(" + one + ", " + otherList + ")", x.engine(one, otherList), 0);
            }
            Checks.due("count(" + count + ")", x.count(count), 1);
            Checks.due(statement + " twice more", Checks.land(x, statement + statement), 2);
            Checks.due("count(" + count + "), once all the same", x.count(count), 1);
        }
    }

    /** "kind 1 the place of the first letter with which no LAND can go on ..: -1000 less the place": from 0 to 64. */
    private static void thousandLessThePlace() {
        String text = "u10;u10;u10;u10;u10;u10;u10;u10;u10;u10;u10;u10;u10;u10;u10;u10;";
        for (int place = 0; place < 64; place++) {
            StringBuilder wrong = new StringBuilder(text);
            wrong.setCharAt(place, '?');
            Checks.due("? at " + place, Checks.land(Checks.with(APART), wrong.toString()), -1000 - place);
            boolean whole = place > 0 && place % 4 == 0;
            int want = whole ? place / 4 : -1000 - place;
            Checks.due("the first " + place, Checks.land(Checks.with(APART), text.substring(0, place)), want);
        }
        String open = text.substring(0, 60) + "e14c";
        Checks.due("64 letters, something lacks", Checks.land(Checks.with(APART), open), -1064);
    }

    /** "kind 2 the place of the first letter of the first STATEMENT that ..: -2000 less the place": from 0 to 60. */
    private static void twoThousandLessThePlace() {
        for (int ahead = 0; ahead < 16; ahead++) {
            StringBuilder text = new StringBuilder();
            for (int i = 0; i < 16; i++) {
                text.append(i == ahead ? "u99;" : "f10;");
            }
            EnginesOnList x = Checks.with(APART);
            Checks.due("u99; at " + 4 * ahead, Checks.land(x, text.toString()), -2000 - 4 * ahead);
            Checks.due("count(7), nothing came", x.count(7), 0);
        }
    }

    /** "KINDS, where one IS on a DAY": one of each KIND, for three weeks. */
    private static void whereOneIsOnADay() {
        String[] wanted = {
            "0123494" + "0123494" + "0123494",
            "0129999" + "0129999" + "0129999",
            "9999999" + "0123494" + "0123494",
            "2222222" + "2222222" + "2222222",
            "0123494" + "0123494" + "9999999",
            "0123494" + "4321090" + "0123494",
            "4321090" + "4321090" + "4321090",
        };
        EnginesOnList x = Checks.with(FOUR, THREE);
        for (int e = 0; e < 7; e++) {
            for (int day = 0; day < 21; day++) {
                Checks.due("at(" + e + ", " + day + ")", x.at(e, day), wanted[e].charAt(day) - '0');
            }
        }
        for (int day = 0; day < 21; day++) {
            for (int place = 0; place < 5; place++) {
                int bits = 0;
                for (int e = 0; e < 7; e++) {
                    bits |= wanted[e].charAt(day) - '0' == place ? 1 << e : 0;
                }
                Checks.due("pass(" + place + ", " + day + ")", x.pass(place, day), bits);
            }
        }
    }

    /**
     * "a AWAY under COMMON: as a COMMON", "w WORKS under COMMON: as a COMMON", "x SCRAPPED under COMMON: as a COMMON",
     * "s SWAPPED under COMMON: as a COMMON", "n NAMED under COMMON: as a COMMON"; "k KEPT under ENGINE" is not.
     */
    private static void asACommon() {
        for (int figure = 0; figure <= 9; figure++) {
            for (int kind = 0; kind < 7; kind++) {
                String one = "e11" + KINDS.charAt(kind) + figure + "1429030;";
                EnginesOnList x = Checks.with("e10c01429030;" + one + "e12c09999999;");
                for (int day = 0; day < 77; day++) {
                    int common = x.at(0, day);
                    int want = kind == 3 ? figure % 5 : isAsUsual(kind, figure, day) ? common : 9;
                    Checks.due(KINDS.charAt(kind) + " with " + figure + " on day " + day, x.at(1, day), want);
                }
            }
        }
    }

    private static boolean isAsUsual(int kind, int figure, int day) {
        int week = day / 7;
        boolean[] usual = {true, day - 7 * week < figure, week % (figure + 2) != 0, false, week < figure, week % 2 == 0,
            true};
        return usual[kind];
    }

    /** "READ from a train: a NUMBER may be MISREAD": which of the engines a reading fits, and which it can't. */
    private static void readFromATrain() {
        EnginesOnList x = Checks.with("e13k00000000;e18k00000000;e31k00000000;e81k00000000;",
                "e38k00000000;e83k00000000;e55k00000000;");
        int[] read = {13, 18, 31, 81, 38, 83, 33, 88, 55, 53, 85, 11};
        int[] fitting = {3, 3, 12, 12, 48, 48, 48, 48, 64, 0, 0, 0};
        int[] right = {1, 2, 4, 8, 16, 32, 0, 0, 64, 0, 0, 0};
        for (int i = 0; i < read.length; i++) {
            x.reading(i, 0, read[i], i % 4);
            Checks.due("fitting " + read[i], x.fitting(i, 0), fitting[i]);
            Checks.due("right " + read[i], x.fitting(i, 1), right[i]);
        }
        Checks.due("madeUp()", x.madeUp(), 512 + 1024 + 2048);
        Checks.due("liars()", x.liars(), 2 + 4 + 8);
        Checks.due("sure()", x.sure(), 64);
    }

    /** "STAND: he stands at a PLACE TODAY", "TODAY is 1 more". */
    private static void heStandsToday() {
        EnginesOnList x = Checks.with("e10c00123401;e11c09112340;e12n01111111;");
        int[] worths = {1, 3, 0, 0, 0, 0};
        int[] lists = {1, 3, 3, 3, 3, 3};
        int[] places = {0, 1, 2, 3, 4, 1};
        for (int day = 0; day < 6; day++) {
            Checks.due("stand(" + places[day] + ") on day " + day, x.stand(places[day]), worths[day]);
            Checks.due("count(1)", x.count(1), day + 1);
            Checks.due("count(2)", x.count(2), lists[day]);
        }
    }

    /** "FRESH of a PLACE in n DAYS", "WHERE": of five places, each with others that pass. */
    private static void freshWhereAndTheirPlaces() {
        EnginesOnList x = Checks.with("e10c00111234;e11c00122334;e12n04999993;e13k20000000;");
        int[][] fresh = {{2, 0, 1, 0, 2}, {2, 2, 1, 0, 2}, {2, 2, 2, 0, 2}, {2, 2, 2, 0, 2}, {2, 2, 3, 1, 2},
            {2, 2, 3, 2, 2}, {2, 2, 3, 4, 4}};
        int[] where = {0, 0, 0, 0, 2, 2, 3};
        for (int n = 1; n <= 7; n++) {
            for (int place = 0; place < 5; place++) {
                Checks.due("fresh(" + place + ", " + n + ")", x.fresh(place, n), fresh[n - 1][place]);
            }
            Checks.due("where(" + n + ")", x.where(n), where[n - 1]);
        }
    }

    /** "a PLACE each DAY", "how much; the i-th PLACE": what he sees who goes as the plan tells. */
    private static void planAPlaceEachDay() {
        for (int coin = 0; coin <= 20; coin++) {
            for (int n = 1; n <= 5; n++) {
                EnginesOnList x = Checks.with("e10c01099234;e11c00423149;", THREE);
                int worth = x.plan(n, coin, -1);
                int[] places = new int[n];
                int cost = 0;
                for (int i = 0; i < n; i++) {
                    places[i] = x.plan(n, coin, i);
                    cost += i == 0 ? 0 : Math.abs(places[i] - places[i - 1]);
                }
                int seen = 0;
                for (int place : places) {
                    seen += x.stand(place);
                }
                Checks.due("what the plan of " + n + " for " + coin + " brings", seen, worth);
                Checks.holds("it costs " + cost + " of " + coin, cost <= coin);
            }
        }
    }

    /** "that with most NEW altogether": no other of all 125 brings more for the coin, none before it as much. */
    private static void planByAllPlansThereAre() {
        String[] lands = {"e10c03041209;e11n01429034;e12c02304911;e13k30000000;", "e14n04210033;j1014;u12;"};
        for (int coin = 0; coin <= 8; coin++) {
            int best = -1;
            int first = -1;
            for (int plan = 0; plan < 125; plan++) {
                int[] places = {plan / 25, plan / 5 % 5, plan % 5};
                if (Math.abs(places[0] - places[1]) + Math.abs(places[1] - places[2]) <= coin) {
                    EnginesOnList x = Checks.with(lands);
                    int seen = x.stand(places[0]) + x.stand(places[1]) + x.stand(places[2]);
                    first = seen > best ? plan : first;
                    best = Math.max(best, seen);
                }
            }
            EnginesOnList x = Checks.with(lands);
            Checks.due("plan(3, " + coin + ", -1)", x.plan(3, coin, -1), best);
            int told = 25 * x.plan(3, coin, 0) + 5 * x.plan(3, coin, 1) + x.plan(3, coin, 2);
            Checks.due("places of plan(3, " + coin + ")", told, first);
        }
    }

    /** "WAIT for an ENGINE at a PLACE", "CHASE": from each day of two weeks, by what at() tells. */
    private static void waitForAnEngineAtAPlace() {
        EnginesOnList x = Checks.with(FOUR, THREE);
        for (int today = 0; today < 14; today++) {
            for (int e = 0; e < 7; e++) {
                int chased = -9;
                for (int place = 0; place < 5; place++) {
                    int days = 0;
                    while (days <= 60 && x.at(e, today + days) != place) {
                        days++;
                    }
                    int want = days > 60 ? -9 : days;
                    chased = want >= 0 && (chased < 0 || want < chased) ? want : chased;
                    x = sevenOn(today);
                    Checks.due("await(" + e + ", " + place + ") on day " + today, x.await(e, place), want);
                }
                Checks.due("chase(" + e + ") on day " + today, x.chase(e), chased);
            }
        }
    }

    /** A new object each time, so that none is called more than 512 times. */
    private static EnginesOnList sevenOn(int today) {
        EnginesOnList x = Checks.with(FOUR, THREE);
        Checks.restTo(x, today);
        return x;
    }

    /** "EVER: how much NEW there is that IS at any PLACE on some DAY from TODAY to 60 DAYS on": each as its chase. */
    private static void everTo60DaysOn() {
        for (int today = 0; today <= 70; today += 7) {
            EnginesOnList x = Checks.with("e10x60123494;e11x89999999;e12n09999990;e13x99999990;", "e14w99999939;u12;");
            Checks.restTo(x, today);
            int come = 0;
            for (int e = 0; e < 5; e++) {
                come += e != 2 && x.chase(e) >= 0 ? 1 : 0;
            }
            Checks.due("ever() on day " + today, x.ever(), come);
            Checks.due("ever() on day " + today + ", told", x.ever(), today <= 35 ? 3 : today <= 56 ? 2 : 1);
        }
    }

    /** "ALL: the least n .. by which a PLAN of n DAYS (any coin) brings all that he has not": not what he has. */
    private static void allThatHeHasNot() {
        EnginesOnList x = Checks.with("e10c00999999;e11c09919999;e12n09999499;e13c09999999;");
        Checks.due("all(), one never comes", x.all(), -9);
        x.underline(3, 1);
        Checks.due("all()", x.all(), 5);
        x.underline(2, 1);
        Checks.due("all() but the named one", x.all(), 3);
        x.underline(1, 1);
        Checks.due("all() but two", x.all(), 1);
        x.underline(0, 1);
        Checks.due("all() of none", x.all(), 0);
        x.underline(2, 0);
        Checks.due("all() of the named one", x.all(), 5);
    }

    /** "A reading more: how many." */
    private static void aReadingMore() {
        EnginesOnList x = Checks.with(APART);
        Checks.due("reading of the first", x.reading(4, 1, 11, 2), 1);
        Checks.due("reading of the second", x.reading(9, 0, 10, 1), 2);
        Checks.due("reading of the third, as the first", x.reading(4, 1, 11, 2), 3);
        Checks.due("count(4)", x.count(4), 3);
        Checks.due("count(1), no day went by", x.count(1), 0);
        Checks.due("count(2), nothing is underlined by it", x.count(2), 0);
        Checks.due("fitting(1, 0)", x.fitting(1, 0), 1);
        Checks.due("fitting(2, 0)", x.fitting(2, 0), 2);
    }

    /** "FITTING (right 0), RIGHT ones (1) (bits)." "MADE UP (bits)." "LIARS (bits)." "SEEN IN ALL (bits)." */
    private static void fittingAndRight() {
        EnginesOnList x = Checks.with("e23k40000000;e28k40000000;e71k40000000;");
        x.reading(5, 4, 28, 1);
        x.reading(5, 4, 71, 2);
        x.reading(5, 3, 71, 3);
        x.reading(5, 4, 78, 3);
        int[] fitting = {3, 4, 0, 0};
        int[] right = {2, 4, 0, 0};
        for (int i = 0; i < 4; i++) {
            Checks.due("fitting(" + i + ", 0)", x.fitting(i, 0), fitting[i]);
            Checks.due("fitting(" + i + ", 1)", x.fitting(i, 1), right[i]);
        }
        Checks.due("madeUp()", x.madeUp(), 12);
        Checks.due("liars()", x.liars(), 8);
        Checks.due("sure()", x.sure(), 4);
    }

    /** "CLASH: of all two readings ..", "how many (what 0), the first (1; -9)". */
    private static void clashOfAllTwo() {
        EnginesOnList x = new EnginesOnList();
        int[][] readings = {{3, 0, 20, 0}, {3, 1, 21, 0}, {3, 2, 21, 1}, {3, 3, 20, 2}, {4, 0, 20, 0}, {3, 1, 20, 0}};
        int[] howMany = {0, 0, 1, 2, 2, 4};
        int[] first = {-9, -9, 12 + 2, 3, 3, 3};
        for (int i = 0; i < readings.length; i++) {
            x.reading(readings[i][0], readings[i][1], readings[i][2], readings[i][3]);
            Checks.due("clash(0) of " + (i + 1), x.clash(0), howMany[i]);
            Checks.due("clash(1) of " + (i + 1), x.clash(1), first[i]);
        }
    }

    /** "PAIRS: two ENGINES that on all of n DAYS ..", "how many (what 0), the first (1; -9)". */
    private static void pairsOfTwoEngines() {
        EnginesOnList x = Checks.with("e10c00123494;e11c01123494;e12c00129999;e13c00123490;");
        int[] howMany = {3, 3, 3, 1, 1, 1, 0};
        int[] first = {2, 2, 2, 3, 3, 3, -9};
        for (int n = 1; n <= 7; n++) {
            Checks.due("pairs(" + n + ", 0)", x.pairs(n, 0), howMany[n - 1]);
            Checks.due("pairs(" + n + ", 1)", x.pairs(n, 1), first[n - 1]);
        }
        x.rest(1);
        Checks.due("pairs(2, 0) on day 1", x.pairs(2, 0), 6);
        Checks.due("pairs(2, 1) on day 1", x.pairs(2, 1), 1);
    }

    /** "MANY: how many there are by numbers that were READ": 60 less 9 are 51, times 2 by 1, 3 by 2, 4 by 3. */
    private static void manyThereAre() {
        EnginesOnList x = new EnginesOnList();
        int[] numbers = {60, 14, 60, 37, 14};
        int[] many = {101, 75, 75, 67, 67};
        for (int i = 0; i < numbers.length; i++) {
            x.reading(i, i, numbers[i], i % 4);
            Checks.due("many() of " + (i + 1), x.many(), many[i]);
        }
    }

    /**
     * "SEEDS with a seed z: n DAYS .. he stands at a DRAW below 5", "z becomes z times 1664525 and 1013904223",
     * "modulo m": as one who stands where long arithmetic draws.
     */
    private static void seedsWithASeed() {
        int[] seeds = {0, 1, 7, -1, 123456789, -987654321, Integer.MAX_VALUE, Integer.MIN_VALUE};
        for (int seed : seeds) {
            EnginesOnList x = Checks.with(FOUR, THREE, "j1014;");
            EnginesOnList stands = Checks.with(FOUR, THREE, "j1014;");
            long z = seed;
            int seen = 0;
            for (int n = 1; n <= 30; n++) {
                z = (int) (z * 1664525L + 1013904223L);
                seen += stands.stand((int) ((z & 0x7fffffffL) / 256L % 5L));
                Checks.due("seeds(" + n + ", " + seed + ")", x.seeds(n, seed), seen);
            }
            Checks.due("count(1)", x.count(1), 0);
        }
    }

    /** "A PLACE more of the ROW (0 .. 9): how many." "JUDGED; -9". */
    private static void aPlaceMoreOfTheRow() {
        for (int e = 0; e < 7; e++) {
            EnginesOnList x = Checks.with(FOUR, THREE);
            x.rest(5);
            for (int i = 0; i < 14; i++) {
                Checks.due("row of day " + (5 + i), x.row(x.at(e, 5 + i)), i + 1);
                Checks.due("count(5)", x.count(5), i + 1);
            }
            Checks.due("judge(" + e + ") of its own row", x.judge(e), -9);
            for (int i = 0; i < 14; i++) {
                x.row(x.at(e, 6 + i));
            }
            int late = 0;
            while (x.at(e, 5 + late) == x.at(e, 6 + late) && late < 14) {
                late++;
            }
            Checks.due("judge(" + e + ") of tomorrow's row", x.judge(e), late == 14 ? -9 : late);
        }
    }

    /** "THE IMAGE: all that is told, TODAY, the LIST, the BOOK ..; ON from it all is as then". */
    private static void onAllIsAsThen() {
        EnginesOnList x = Checks.with(FOUR, "f10;u11;j1013;");
        x.rest(12);
        x.stand(2);
        x.reading(2, 2, 10, 3);
        Checks.due("image()", x.image(), 13);
        Checks.land(x, THREE);
        Checks.land(x, "j1416;f14;u12;");
        x.underline(1, 0);
        x.reading(2, 1, 10, 3);
        x.rest(60);
        Checks.due("on()", x.on(), 13);
        EnginesOnList twin = Checks.with(FOUR, "f10;u11;j1013;");
        twin.rest(12);
        twin.stand(2);
        twin.reading(2, 2, 10, 3);
        Checks.same("from the image on", x, twin);
    }

    /** "the call answers the number, the first that fits in the order in which it tells them". */
    private static void theFirstRefusalThatFits() {
        EnginesOnList x = Checks.with(APART);
        Checks.due("engine(4, 7)", x.engine(4, 7), -1);
        Checks.due("turn(4, -1)", x.turn(4, -1), -1);
        Checks.due("at(4, 1101)", x.at(4, 1101), -1);
        Checks.due("pass(5, -1)", x.pass(5, -1), -1);
        Checks.due("underline(4, 2)", x.underline(4, 2), -1);
        Checks.due("fresh(5, 0)", x.fresh(5, 0), -1);
        Checks.due("fitting(0, 2)", x.fitting(0, 2), -1);
        Checks.due("reading(-1, 5, 100, 0)", x.reading(-1, 5, 100, 0), -1);
        Checks.due("reading(-1, 0, 100, 0)", x.reading(-1, 0, 100, 0), -4);
        Checks.due("plan(0, 21, 0)", x.plan(0, 21, 0), -4);
        Checks.due("pairs(0, 2)", x.pairs(0, 2), -4);
        Checks.due("pairs(61, 2)", x.pairs(61, 2), -6);
        Checks.restTo(x, 999);
        Checks.due("stand(5) on day 999", x.stand(5), -1);
        Checks.due("rest(0) on day 999", x.rest(0), -4);
        int[] wanted = {9, 0, 0, 4, 0, 1};
        for (int i = 0; i < wanted.length; i++) {
            Checks.due("count(" + (11 + i) + ")", x.count(11 + i), wanted[i]);
        }
    }

    /**
     * "-1 NOBODY: no such ENGINE, PLACE, BOY, reading. -2 OTHER: what. -3 STATE: it is not as it must be. -4 BELOW: a
     * number below the least. -6 ROOM: a number above the greatest, no room."
     */
    private static void whatTheRefusalsAre() {
        EnginesOnList x = Checks.with(APART);
        Checks.refused(x, "chase(4), no such engine", () -> x.chase(4), -1);
        Checks.refused(x, "stand(5), no such place", () -> x.stand(5), -1);
        Checks.refused(x, "reading by 4, no such boy", () -> x.reading(0, 0, 10, 4), -1);
        Checks.refused(x, "fitting(0, 0), no such reading", () -> x.fitting(0, 0), -1);
        Checks.refused(x, "clash(2), another what", () -> x.clash(2), -2);
        Checks.refused(x, "forget(), no reading", x::forget, -3);
        Checks.refused(x, "on(), no image", x::on, -3);
        Checks.refused(x, "seeds(0, 0), below the least", () -> x.seeds(0, 0), -4);
        Checks.refused(x, "where(15), above the greatest", () -> x.where(15), -6);
        for (int i = 0; i < 14; i++) {
            x.row(0);
        }
        Checks.refused(x, "row(0), no room", () -> x.row(0), -6);
    }

    /** "nothing changes but how many there were", "11 .. 16 REFUSALS -1 .. -6": whichever call it was. */
    private static void refusalsOfOneAnswerAreCountedTogether() {
        EnginesOnList x = Checks.with(APART);
        EnginesOnList twin = Checks.with(APART);
        int[] answers = {x.turn(9, 0), x.await(0, 9), x.judge(9), x.fresh(9, 1), x.letter(-1), x.row(-1), x.rest(61),
            x.letter(256)};
        int[] wanted = {-1, -1, -1, -1, -4, -4, -6, -6};
        for (int i = 0; i < wanted.length; i++) {
            Checks.due("refusal " + i, answers[i], wanted[i]);
        }
        int[] counts = {4, 0, 0, 2, 0, 2};
        for (int i = 0; i < counts.length; i++) {
            Checks.due("count(" + (11 + i) + ")", x.count(11 + i), counts[i]);
        }
        Checks.same("behind eight refusals", x, twin);
    }

    /** "Of an ENGINE: 0 NUMBER, 1 KIND (0 c, 1 a, 2 w, 3 k, 4 x, 5 s, 6 n), 2 FIGURE, 3 to which it is JOINED". */
    private static void ofAnEngine() {
        EnginesOnList x = Checks.with(FOUR, THREE, "j1216;f10;u16;");
        int[] figures = {3, 3, 1, 7, 2, 0, 0};
        for (int e = 0; e < 7; e++) {
            boolean one = e == 2 || e == 6;
            int[] wanted = {10 + e, e, figures[e], one ? 8 - e : -9, e == 6 ? 1 : 0, e == 0 ? 1 : 0, one ? 1 : 0};
            for (int what = 0; what <= 6; what++) {
                Checks.due("engine(" + e + ", " + what + ")", x.engine(e, what), wanted[what]);
            }
        }
    }

    /** "TURN: the PLACE on a day of the week": as told, whatever the KIND makes of it. */
    private static void turnIsAsTold() {
        EnginesOnList x = Checks.with(FOUR, THREE);
        x.rest(60);
        for (int e = 0; e < 7; e++) {
            String told = e == 6 ? "4321090" : "0123494";
            for (int day = 0; day < 7; day++) {
                Checks.due("turn(" + e + ", " + day + ")", x.turn(e, day), told.charAt(day) - '0');
            }
        }
    }

    /** "0 ENGINES, 1 TODAY, 2 underlined ones, 3 NEW ones (as they count), 4 readings, 5 in the ROW, 6 letters, 7". */
    private static void whatIsCounted() {
        EnginesOnList x = Checks.with(FOUR, THREE, "j1014;f10;f11;f12;u15;");
        x.rest(23);
        for (int i = 0; i < 8; i++) {
            x.reading(i, 0, 10, 0);
        }
        for (int i = 0; i < 9; i++) {
            x.row(i);
        }
        Checks.letters(x, "u10;u10;u1");
        int[] wanted = {7, 23, 1, 6, 8, 9, 10, 3};
        for (int what = 0; what < wanted.length; what++) {
            Checks.due("count(" + what + ")", x.count(what), wanted[what]);
        }
    }

    /** "Nothing is promised beyond the answers and state changes described above": who asks twice is told the same. */
    private static void nothingBeyondWhatIsDescribed() {
        EnginesOnList x = Checks.with(FOUR, THREE, "j1014;f16;u12;");
        EnginesOnList twin = Checks.with(FOUR, THREE, "j1014;f16;u12;");
        x.reading(2, 2, 18, 1);
        twin.reading(2, 2, 18, 1);
        int[] first = Checks.asked(x);
        Checks.same("asked a second time", x, twin);
        int[] again = Checks.asked(twin);
        for (int i = 0; i < first.length; i++) {
            Checks.due("answer " + i, again[i], first[i]);
        }
        for (int what = 11; what <= 16; what++) {
            Checks.due("count(" + what + "), no call was refused", x.count(what), 0);
        }
    }
}
