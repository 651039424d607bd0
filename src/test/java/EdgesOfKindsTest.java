/** The edges of the KINDS in "Terms", and of promises 6 and 7: each method has the sentence it looks at. */
public final class EdgesOfKindsTest {
    /** No day of the week is as the one before it, nor the last as the first. */
    private static final String TURN = "0123404";
    private static final String SHED = "9999999";

    public static void main(String[] args) {
        commonByItsTurn();
        daysByTheWeek();
        awayFromTheFigureOn();
        awayInTheLastWeek();
        worksInWeeksThatDivide();
        worksInTheLastWeeks();
        keptAtTheFigureModulo5();
        scrappedFromTheFigureOn();
        swappedInOddWeeks();
        swappedBehindTheLast();
        swappedAlone();
        swappedWithOneThatComesLater();
        swappedByTheTurnAlone();
        namedAsACommon();
        atFromDay0To1100();
        passFromDay0To1100();
        passOfNoneAndOfAll();
        Checks.end("EdgesOfKindsTest");
    }

    private static EnginesOnList one(char kind, int figure, String turn) {
        return Checks.with("e10" + kind + figure + turn + ";");
    }

    /** Whether it is, in that week, where the seven signs tell. */
    private static void week(EnginesOnList x, int engine, int week, String places) {
        for (int i = 0; i < 7; i++) {
            int day = 7 * week + i;
            Checks.due("kind " + x.engine(engine, 1) + " of figure " + x.engine(engine, 2) + " on day " + day,
                    x.at(engine, day), places.charAt(i) - '0');
        }
    }

    /** "c COMMON under ENGINE: by its TURN", whatever its FIGURE. */
    private static void commonByItsTurn() {
        for (int figure = 0; figure <= 9; figure++) {
            EnginesOnList x = one('c', figure, "0129344");
            for (int week : new int[] {0, 1, 2, 9, 10, 11, 156}) {
                week(x, 0, week, "0129344");
            }
        }
    }

    /** "DAYS are counted from 0 on; WEEK: DAY by 7." */
    private static void daysByTheWeek() {
        EnginesOnList x = one('c', 0, "0999994");
        int[] days = {0, 5, 6, 7, 12, 13, 14};
        int[] places = {0, 9, 4, 0, 9, 4, 0};
        for (int i = 0; i < days.length; i++) {
            Checks.due("at(0, " + days[i] + ")", x.at(0, days[i]), places[i]);
        }
        EnginesOnList y = one('x', 1, TURN);
        Checks.due("the last day of week 0", y.at(0, 6), 4);
        Checks.due("the first day of week 1", y.at(0, 7), 9);
    }

    /** "on the FIGURE-th day of the week (0 .. 6) and all behind it in its shed"; the next week it is back. */
    private static void awayFromTheFigureOn() {
        for (int figure = 0; figure <= 9; figure++) {
            int days = Math.min(figure, 7);
            String places = TURN.substring(0, days) + SHED.substring(days);
            EnginesOnList x = one('a', figure, TURN);
            week(x, 0, 0, places);
            week(x, 0, 1, places);
            week(x, 0, 2, places);
        }
        week(one('a', 3, "9919999"), 0, 0, "9919999");
        week(one('a', 2, "9919999"), 0, 0, "9999999");
    }

    private static void awayInTheLastWeek() {
        int[] first = {9, 0, 0};
        int[] last = {9, 9, 1};
        for (int figure = 0; figure <= 2; figure++) {
            EnginesOnList x = one('a', figure, TURN);
            Checks.due("at(0, 1099)", x.at(0, 1099), first[figure]);
            Checks.due("at(0, 1100)", x.at(0, 1100), last[figure]);
        }
    }

    /** "in WEEKS that FIGURE and 2 divides in its shed": week 0 is divided by all, then the first, second one. */
    private static void worksInWeeksThatDivide() {
        for (int figure = 0; figure <= 9; figure++) {
            EnginesOnList x = one('w', figure, TURN);
            int by = figure + 2;
            week(x, 0, 0, SHED);
            week(x, 0, 1, TURN);
            week(x, 0, by - 1, TURN);
            week(x, 0, by, SHED);
            week(x, 0, by + 1, TURN);
            week(x, 0, 2 * by - 1, TURN);
            week(x, 0, 2 * by, SHED);
            week(x, 0, 2 * by + 1, TURN);
        }
        week(one('w', 2, TURN), 0, 2, TURN);
        week(one('w', 4, TURN), 0, 3, TURN);
    }

    /** Week 157 begins with day 1099: 2 to 11 do not divide it; of 156, 155, 154 they divide as told here. */
    private static void worksInTheLastWeeks() {
        int[][] divided = {{0, 1, 2, 4}, {3}, {0, 5, 9}};
        for (int figure = 0; figure <= 9; figure++) {
            EnginesOnList x = one('w', figure, TURN);
            Checks.due("at(0, 1099)", x.at(0, 1099), 0);
            Checks.due("at(0, 1100)", x.at(0, 1100), 1);
            for (int back = 0; back < divided.length; back++) {
                boolean in = false;
                for (int one : divided[back]) {
                    in |= one == figure;
                }
                week(x, 0, 156 - back, in ? SHED : TURN);
            }
        }
    }

    /** "on all DAYS at the PLACE FIGURE modulo 5", also where its TURN has it in its shed. */
    private static void keptAtTheFigureModulo5() {
        String[] places = {"0", "1", "2", "3", "4", "0", "1", "2", "3", "4"};
        for (int figure = 0; figure <= 9; figure++) {
            EnginesOnList x = one('k', figure, figure % 2 == 0 ? SHED : TURN);
            String all = places[figure].repeat(7);
            week(x, 0, 0, all);
            week(x, 0, 1, all);
            week(x, 0, 156, all);
            Checks.due("at(0, 1100)", x.at(0, 1100), figure % 5);
            Checks.due("its turn", x.turn(0, 0), figure % 2 == 0 ? 9 : 0);
        }
    }

    /** "in WEEKS below FIGURE; in its shed from then on": FIGURE 0 never, 9 up to day 62. */
    private static void scrappedFromTheFigureOn() {
        for (int figure = 0; figure <= 9; figure++) {
            EnginesOnList x = one('x', figure, TURN);
            week(x, 0, 0, figure == 0 ? SHED : TURN);
            if (figure > 0) {
                week(x, 0, figure - 1, TURN);
            }
            week(x, 0, figure, SHED);
            week(x, 0, figure + 1, SHED);
            week(x, 0, 156, SHED);
            Checks.due("at(0, 1100)", x.at(0, 1100), 9);
        }
        EnginesOnList x = one('x', 9, TURN);
        Checks.due("at(0, 62)", x.at(0, 62), 4);
        Checks.due("at(0, 63)", x.at(0, 63), 9);
    }

    /** "in odd WEEKS by the TURN of the ENGINE that came next"; in even ones as a COMMON, whatever its FIGURE. */
    private static void swappedInOddWeeks() {
        for (int figure = 0; figure <= 9; figure++) {
            EnginesOnList x = Checks.with("e10c01111111;e11s" + figure + TURN + ";e12c03333393;e13c02222222;");
            for (int even : new int[] {0, 2, 156}) {
                week(x, 1, even, TURN);
            }
            for (int odd : new int[] {1, 3, 155}) {
                week(x, 1, odd, "3333393");
            }
            Checks.due("at(1, 1099), an odd week", x.at(1, 1099), 3);
            Checks.due("at(1, 1098), an even week", x.at(1, 1098), 4);
        }
    }

    /** "(behind the last the first)": from each number of ENGINES. */
    private static void swappedBehindTheLast() {
        EnginesOnList x = Checks.with("e10c04321090;");
        for (int last = 1; last <= 6; last++) {
            Checks.land(x, "e" + (10 + last) + "s0" + TURN + ";");
            week(x, last, 0, TURN);
            week(x, last, 1, "4321090");
            week(x, last - 1, 1, last == 1 ? "4321090" : TURN);
        }
        Checks.due("count(0)", x.count(0), 7);
    }

    /** The only ENGINE is the last and the first: its own TURN. */
    private static void swappedAlone() {
        EnginesOnList x = one('s', 0, TURN);
        week(x, 0, 0, TURN);
        week(x, 0, 1, TURN);
    }

    /** "that came next": the one that is next now; ON takes it away again. */
    private static void swappedWithOneThatComesLater() {
        EnginesOnList x = Checks.with("e10c01111111;e11s0" + TURN + ";");
        x.image();
        week(x, 1, 1, "1111111");
        Checks.land(x, "e12c02222222;");
        week(x, 1, 1, "2222222");
        Checks.land(x, "e13c03333333;");
        week(x, 1, 1, "2222222");
        x.on();
        week(x, 1, 1, "1111111");
    }

    /** "by the TURN" of it: not by its KIND, nor by the one that is swapped for it. */
    private static void swappedByTheTurnAlone() {
        for (String next : new String[] {"a0", "w0", "w9", "k2", "x0", "s0", "n5"}) {
            EnginesOnList x = Checks.with("e10s0" + TURN + ";e11" + next + "3333393;e12c01111111;");
            week(x, 0, 0, TURN);
            week(x, 0, 1, "3333393");
        }
        EnginesOnList x = Checks.with("e10k20000000;e11s0" + TURN + ";");
        week(x, 1, 1, "0000000");
    }

    /** "n NAMED under COMMON: as a COMMON", whatever its FIGURE. */
    private static void namedAsACommon() {
        for (int figure = 0; figure <= 9; figure++) {
            EnginesOnList x = one('n', figure, "0129344");
            for (int week : new int[] {0, 1, 2, 9, 11, 156}) {
                week(x, 0, week, "0129344");
            }
        }
    }

    /** "Where it IS on a DAY (0 .. 1100); 9 in its shed. -1; -4; -6." TODAY does not matter. */
    private static void atFromDay0To1100() {
        EnginesOnList x = one('c', 0, "0123494");
        for (int today = 0; today <= 999; today += 999) {
            Checks.restTo(x, today);
            Checks.due("at(0, 0)", x.at(0, 0), 0);
            Checks.due("at(0, 5)", x.at(0, 5), 9);
            Checks.due("at(0, 1099)", x.at(0, 1099), 0);
            Checks.due("at(0, 1100)", x.at(0, 1100), 1);
            Checks.refused(x, "at(0, -1)", () -> x.at(0, -1), -4);
            Checks.refused(x, "at(0, 1101)", () -> x.at(0, 1101), -6);
            Checks.refused(x, "at(1, -1)", () -> x.at(1, -1), -1);
            Checks.refused(x, "at(-1, 1101)", () -> x.at(-1, 1101), -1);
        }
    }

    /** "PASS (bits). -1; -4; -6 1100." */
    private static void passFromDay0To1100() {
        EnginesOnList x = Checks.with("e10c00123404;e11c04012301;");
        Checks.due("pass(0, 0)", x.pass(0, 0), 1);
        Checks.due("pass(4, 0)", x.pass(4, 0), 2);
        Checks.due("pass(0, 1100)", x.pass(0, 1100), 2);
        Checks.due("pass(1, 1100)", x.pass(1, 1100), 1);
        Checks.due("pass(4, 1099)", x.pass(4, 1099), 2);
        Checks.refused(x, "pass(-1, 0)", () -> x.pass(-1, 0), -1);
        Checks.refused(x, "pass(5, 0)", () -> x.pass(5, 0), -1);
        Checks.refused(x, "pass(5, -1)", () -> x.pass(5, -1), -1);
        Checks.refused(x, "pass(9, 1101)", () -> x.pass(9, 1101), -1);
        Checks.refused(x, "pass(4, -1)", () -> x.pass(4, -1), -4);
        Checks.refused(x, "pass(0, 1101)", () -> x.pass(0, 1101), -6);
    }

    /** "ENGINES (bits) that ARE at a PLACE on a DAY": none, the first, the last, all seven; one in its shed never. */
    private static void passOfNoneAndOfAll() {
        EnginesOnList x = Checks.with("e10c01000009;e11c00100009;e12c00010009;e13c00001009;",
                "e14c00000109;e15c00000019;e16c00000004;");
        int[] zeros = {126, 125, 123, 119, 111, 95, 0};
        int[] ones = {1, 2, 4, 8, 16, 32, 0};
        for (int day = 0; day < 7; day++) {
            Checks.due("pass(0, " + day + ")", x.pass(0, day), zeros[day]);
            Checks.due("pass(1, " + day + ")", x.pass(1, day), ones[day]);
            Checks.due("pass(2, " + day + ")", x.pass(2, day), 0);
            Checks.due("pass(4, " + day + ")", x.pass(4, day), day == 6 ? 64 : 0);
        }
        EnginesOnList all = Checks.with("e10k30000000;e11k30000000;e12k30000000;e13k30000000;",
                "e14k80000000;e15k80000000;e16k80000000;");
        Checks.due("pass(3, 0) of all", all.pass(3, 0), 127);
        Checks.land(all, "j1011;u10;u12;");
        Checks.due("pass(3, 1100), joined or underlined or neither", all.pass(3, 1100), 127);
    }
}
