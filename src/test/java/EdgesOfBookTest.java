/**
 * The edges of MISREAD, the BOOK, FITTING, MADE UP, LIARS, CLASH, SEEN IN ALL, MANY in "Terms", and of promises 18 to
 * 24 and 26: each method has the sentence it looks at.
 */
public final class EdgesOfBookTest {
    private static final String KEPT_AT_0 = "e10k00000000;e11k00000000;e12k00000000;e13k00000000;";
    private static final String MORE_AT_0 = "e14k00000000;e15k00000000;e16k00000000;";

    public static void main(String[] args) {
        twelveReadingsAtMost();
        readingByItsEdges();
        readingsFirstRefusal();
        forgetUntilThereIsNone();
        forgetTheLatest();
        misreadInEitherFigure();
        everyNumberAndEveryReading();
        fittingThereThen();
        fittingOnTheLastDay();
        fittingNoneAndAll();
        fittingRefused();
        madeUpNoneAndAll();
        liarsOneAtLeast();
        liarsMost();
        clashOfNoneOneAndMost();
        clashByAllThree();
        clashTheFirst();
        clashRefused();
        seenInAllNoneAndAll();
        seenInAllAlone();
        manyOfNoneOneAndTwelve();
        manyJustAsRead();
        manyCut();
        Checks.end("EdgesOfBookTest");
    }

    private static void read(EnginesOnList x, int... numbers) {
        for (int number : numbers) {
            x.reading(0, 0, number, 0);
        }
    }

    /** "A BOOK: readings (12 at most)": full, one more, and room again. */
    private static void twelveReadingsAtMost() {
        EnginesOnList x = new EnginesOnList();
        for (int i = 1; i <= 12; i++) {
            Checks.due("count(4)", x.count(4), i - 1);
            Checks.due("reading " + i, x.reading(0, 0, 10, 0), i);
        }
        Checks.refused(x, "reading 13", () -> x.reading(0, 0, 10, 0), -6);
        Checks.refused(x, "reading 13 again", () -> x.reading(1100, 4, 99, 3), -6);
        Checks.due("count(4), full", x.count(4), 12);
        Checks.due("forget()", x.forget(), 11);
        Checks.due("reading 12 anew", x.reading(0, 0, 10, 0), 12);
        Checks.refused(x, "reading 13 anew", () -> x.reading(0, 0, 10, 0), -6);
    }

    /** "on a DAY at a PLACE a number (10 .. 99) was READ by a BOY (0 .. 3)": the least, the greatest, one beyond. */
    private static void readingByItsEdges() {
        EnginesOnList x = new EnginesOnList();
        Checks.due("reading of the least", x.reading(0, 0, 10, 0), 1);
        Checks.due("reading of the greatest", x.reading(1100, 4, 99, 3), 2);
        Checks.refused(x, "day -1", () -> x.reading(-1, 0, 10, 0), -4);
        Checks.refused(x, "day 1101", () -> x.reading(1101, 0, 10, 0), -6);
        Checks.refused(x, "place -1", () -> x.reading(0, -1, 10, 0), -1);
        Checks.refused(x, "place 5", () -> x.reading(0, 5, 10, 0), -1);
        Checks.refused(x, "place 9", () -> x.reading(0, 9, 10, 0), -1);
        Checks.refused(x, "number 9", () -> x.reading(0, 0, 9, 0), -4);
        Checks.refused(x, "number 0", () -> x.reading(0, 0, 0, 0), -4);
        Checks.refused(x, "number 100", () -> x.reading(0, 0, 100, 0), -6);
        Checks.refused(x, "boy -1", () -> x.reading(0, 0, 10, -1), -1);
        Checks.refused(x, "boy 4", () -> x.reading(0, 0, 10, 4), -1);
        Checks.refused(x, "boy 5", () -> x.reading(0, 0, 10, 5), -1);
        Checks.due("count(4)", x.count(4), 2);
        Checks.restTo(x, 999);
        Checks.due("reading of a day behind TODAY", x.reading(1000, 0, 10, 0), 3);
        Checks.due("reading of a day ahead of TODAY", x.reading(998, 0, 10, 0), 4);
    }

    /** "-1 PLACE, BOY; -4 (DAY below 0, number below 10); -6 (1100; 99; 12, too)": the first that fits. */
    private static void readingsFirstRefusal() {
        for (int readings = 0; readings <= 12; readings += 12) {
            EnginesOnList x = new EnginesOnList();
            for (int i = 0; i < readings; i++) {
                x.reading(0, 0, 10, 0);
            }
            Checks.refused(x, "place, day and number below", () -> x.reading(-1, 5, 9, 0), -1);
            Checks.refused(x, "boy, day and number below", () -> x.reading(-1, 0, 9, 4), -1);
            Checks.refused(x, "place, day and number above", () -> x.reading(1101, -1, 100, 0), -1);
            Checks.refused(x, "boy, day and number above", () -> x.reading(1101, 0, 100, -1), -1);
            Checks.refused(x, "day below, number above", () -> x.reading(-1, 0, 100, 0), -4);
            Checks.refused(x, "day above, number below", () -> x.reading(1101, 0, 9, 0), -4);
            Checks.refused(x, "day and number above", () -> x.reading(1101, 0, 100, 0), -6);
            Checks.due("count(4)", x.count(4), readings);
        }
    }

    /** "The latest reading is none: how many are left. -3 there is none." */
    private static void forgetUntilThereIsNone() {
        EnginesOnList x = new EnginesOnList();
        Checks.refused(x, "forget() of a new object", x::forget, -3);
        for (int i = 0; i < 12; i++) {
            x.reading(0, 0, 10, 0);
        }
        for (int left = 11; left >= 0; left--) {
            Checks.due("forget()", x.forget(), left);
            Checks.due("count(4)", x.count(4), left);
            int gone = left;
            Checks.refused(x, "fitting(" + left + ", 0)", () -> x.fitting(gone, 0), -1);
        }
        Checks.refused(x, "forget() of none", x::forget, -3);
        Checks.due("count(4)", x.count(4), 0);
    }

    /** "The latest": those ahead of it stay as they are. */
    private static void forgetTheLatest() {
        EnginesOnList x = Checks.with("e10k00000000;e33k00000000;");
        read(x, 10, 20, 33);
        Checks.due("madeUp()", x.madeUp(), 2);
        Checks.due("forget()", x.forget(), 2);
        Checks.due("madeUp()", x.madeUp(), 2);
        Checks.due("fitting(0, 1)", x.fitting(0, 1), 1);
        Checks.due("forget()", x.forget(), 1);
        Checks.due("madeUp()", x.madeUp(), 0);
        read(x, 38);
        Checks.due("fitting(1, 0)", x.fitting(1, 0), 2);
        Checks.due("fitting(1, 1)", x.fitting(1, 1), 0);
    }

    /** "a NUMBER may be MISREAD: 3 as 8, 8 as 3 in either figure, or both": each way, and what only looks like one. */
    private static void misreadInEitherFigure() {
        EnginesOnList x = Checks.with("e33k00000000;e31k00000000;e13k00000000;e80k00000000;", "e88k00000000;");
        int[] numbers = {33, 38, 83, 88, 31, 81, 13, 18, 30, 80, 11, 39};
        int[] fitting = {17, 17, 17, 17, 2, 2, 4, 4, 8, 8, 0, 0};
        int[] right = {1, 0, 0, 16, 2, 0, 4, 0, 0, 8, 0, 0};
        read(x, numbers);
        for (int i = 0; i < numbers.length; i++) {
            Checks.due("fitting " + numbers[i], x.fitting(i, 0), fitting[i]);
            Checks.due("right " + numbers[i], x.fitting(i, 1), right[i]);
        }
    }

    private static boolean figureMayBe(char told, char read) {
        return told == read || told == '3' && read == '8' || told == '8' && read == '3';
    }

    /** "whose NUMBER is just that or is so MISREAD", "RIGHT ones: those whose NUMBER it is": 10 .. 99 by 10 .. 99. */
    private static void everyNumberAndEveryReading() {
        for (int number = 10; number <= 99; number++) {
            EnginesOnList x = Checks.with("e" + number + "k20000000;");
            String told = Integer.toString(number);
            for (int is = 10; is <= 99; is++) {
                String read = Integer.toString(is);
                boolean fits = figureMayBe(told.charAt(0), read.charAt(0)) && figureMayBe(told.charAt(1), read.charAt(1));
                x.reading(5, 2, is, 0);
                Checks.due(number + " read as " + is, x.fitting(0, 0), fits ? 1 : 0);
                Checks.due(number + " rightly read as " + is, x.fitting(0, 1), number == is ? 1 : 0);
                x.forget();
            }
        }
    }

    /** "ENGINES (bits) that passed there then": by the DAY and the PLACE of the reading, not by TODAY. */
    private static void fittingThereThen() {
        EnginesOnList x = Checks.with("e33c00123494;e38x10123494;");
        int[] days = {0, 1, 3, 4, 5, 6, 7, 13, 6, 5};
        int[] places = {0, 1, 3, 4, 4, 4, 0, 4, 0, 0};
        int[] fitting = {3, 3, 3, 3, 0, 3, 1, 1, 0, 0};
        for (int i = 0; i < days.length; i++) {
            x.reading(days[i], places[i], 83, 0);
        }
        for (int today = 0; today <= 60; today += 60) {
            for (int i = 0; i < days.length; i++) {
                Checks.due("fitting(" + i + ", 0)", x.fitting(i, 0), fitting[i]);
                Checks.due("fitting(" + i + ", 1)", x.fitting(i, 1), 0);
            }
            x.rest(60);
        }
    }

    private static void fittingOnTheLastDay() {
        EnginesOnList x = Checks.with("e10s02222222;e11c04434444;");
        x.reading(1100, 4, 10, 0);
        x.reading(1099, 4, 10, 0);
        x.reading(1098, 2, 10, 0);
        x.reading(1098, 4, 10, 0);
        int[] fitting = {1, 1, 1, 0};
        for (int i = 0; i < fitting.length; i++) {
            Checks.due("fitting(" + i + ", 0), in odd weeks swapped", x.fitting(i, 0), fitting[i]);
        }
    }

    /** No ENGINE, and as many as can: the four whose figures are 3 or 8; had or joined does not matter. */
    private static void fittingNoneAndAll() {
        EnginesOnList none = new EnginesOnList();
        none.reading(0, 0, 10, 0);
        Checks.due("fitting(0, 0) without engines", none.fitting(0, 0), 0);
        Checks.due("fitting(0, 1) without engines", none.fitting(0, 1), 0);
        EnginesOnList x = Checks.with("e10k00000000;e11k00000000;e12k00000000;e33k00000000;",
                "e38k00000000;e83k00000000;e88k00000000;");
        read(x, 83);
        Checks.due("fitting(0, 0)", x.fitting(0, 0), 8 + 16 + 32 + 64);
        Checks.due("fitting(0, 1)", x.fitting(0, 1), 32);
        Checks.land(x, "u33;u83;j3388;");
        Checks.due("fitting(0, 0)", x.fitting(0, 0), 8 + 16 + 32 + 64);
        Checks.due("fitting(0, 1)", x.fitting(0, 1), 32);
    }

    /** "-1; -2." */
    private static void fittingRefused() {
        EnginesOnList x = Checks.with(KEPT_AT_0);
        Checks.refused(x, "fitting(0, 0) of an empty book", () -> x.fitting(0, 0), -1);
        for (int size = 1; size <= 12; size++) {
            int next = size;
            read(x, 10);
            Checks.due("fitting of the last", x.fitting(size - 1, 0), 1);
            Checks.refused(x, "fitting of the one behind it", () -> x.fitting(next, 0), -1);
        }
        Checks.refused(x, "fitting(-1, 0)", () -> x.fitting(-1, 0), -1);
        Checks.refused(x, "fitting(-1, 2)", () -> x.fitting(-1, 2), -1);
        Checks.refused(x, "fitting(12, -1)", () -> x.fitting(12, -1), -1);
        Checks.refused(x, "fitting(0, -1)", () -> x.fitting(0, -1), -2);
        Checks.refused(x, "fitting(11, 2)", () -> x.fitting(11, 2), -2);
    }

    /** "MADE UP: readings (bits) that no ENGINE FITS": none, each one alone, all twelve. */
    private static void madeUpNoneAndAll() {
        EnginesOnList x = Checks.with(KEPT_AT_0);
        Checks.due("madeUp() of an empty book", x.madeUp(), 0);
        for (int made = 0; made < 12; made++) {
            for (int i = 0; i < 12; i++) {
                read(x, i == made ? 99 : 10);
            }
            Checks.due("madeUp(), one", x.madeUp(), 1 << made);
            for (int i = 0; i < 12; i++) {
                x.forget();
            }
        }
        read(x, 10, 11, 12, 13, 10, 11, 12, 13, 10, 11, 12, 18);
        Checks.due("madeUp(), none", x.madeUp(), 0);
        EnginesOnList none = new EnginesOnList();
        read(none, 10, 11, 12, 13, 14, 15, 16, 17, 18, 19, 20, 21);
        Checks.due("madeUp(), all", none.madeUp(), 4095);
        Checks.land(none, "e21k00000000;");
        Checks.due("madeUp(), an engine came that fits the last", none.madeUp(), 2047);
    }

    /** "LIARS: BOYS (bits) who made up most readings, one at least": none, one, all, whose book is empty. */
    private static void liarsOneAtLeast() {
        EnginesOnList x = Checks.with(KEPT_AT_0);
        Checks.due("liars() of an empty book", x.liars(), 0);
        for (int boy = 0; boy < 4; boy++) {
            x.reading(0, 0, 10, boy);
        }
        Checks.due("liars(), nobody made any up", x.liars(), 0);
        for (int boy = 0; boy < 4; boy++) {
            x.reading(0, 0, 99, boy);
            Checks.due("liars(), one reading", x.liars(), 1 << boy);
            x.forget();
        }
        Checks.due("liars(), forgotten", x.liars(), 0);
        int[] wanted = {8, 12, 14, 15};
        for (int boy = 3; boy >= 0; boy--) {
            x.reading(0, 0, 99, boy);
            Checks.due("liars(), one reading each", x.liars(), wanted[3 - boy]);
        }
    }

    /** Most of those made up, not most of all; a full book of one BOY. */
    private static void liarsMost() {
        EnginesOnList x = Checks.with(KEPT_AT_0);
        for (int i = 0; i < 6; i++) {
            x.reading(i, 0, 10, 0);
        }
        x.reading(0, 1, 10, 0);
        x.reading(0, 0, 99, 3);
        x.reading(0, 0, 99, 3);
        Checks.due("liars(), two by the last boy", x.liars(), 8);
        x.reading(0, 0, 99, 1);
        x.reading(0, 0, 99, 1);
        Checks.due("liars(), two by two", x.liars(), 10);
        x.reading(0, 0, 99, 1);
        Checks.due("liars(), three by one", x.liars(), 2);
        EnginesOnList full = new EnginesOnList();
        for (int i = 0; i < 12; i++) {
            full.reading(0, 0, 10, 3);
            Checks.due("liars(), the last boy alone", full.liars(), 8);
        }
        Checks.due("liars(), twelve by the last boy", full.liars(), 8);
    }

    /** "CLASH: .. how many": an empty book, one reading, two, and the most that twelve can be. */
    private static void clashOfNoneOneAndMost() {
        EnginesOnList x = new EnginesOnList();
        Checks.due("clash(0) of an empty book", x.clash(0), 0);
        Checks.due("clash(1) of an empty book", x.clash(1), -9);
        x.reading(0, 0, 10, 0);
        Checks.due("clash(0) of one reading", x.clash(0), 0);
        Checks.due("clash(1) of one reading", x.clash(1), -9);
        x.reading(0, 1, 10, 0);
        Checks.due("clash(0) of two", x.clash(0), 1);
        Checks.due("clash(1) of two", x.clash(1), 1);
        for (int i = 2; i < 12; i++) {
            x.reading(0, i % 5, 10, 0);
        }
        // All 66 twos but those at one place: 3 of each of three readings, 1 of each of two.
        Checks.due("clash(0) of twelve at five places", x.clash(0), 66 - 3 - 3 - 1 - 1 - 1);
        EnginesOnList alike = new EnginesOnList();
        for (int i = 0; i < 12; i++) {
            alike.reading(0, 0, 10, i % 4);
        }
        Checks.due("clash(0) of twelve at one place", alike.clash(0), 0);
        Checks.due("clash(1) of twelve at one place", alike.clash(1), -9);
    }

    /** "of one number, on one DAY, at unlike PLACES": each of the three; by numbers as READ, whoever READ them. */
    private static void clashByAllThree() {
        int[][] seconds = {{0, 1, 33, 1}, {0, 0, 33, 0}, {1, 1, 33, 0}, {0, 1, 38, 0}, {0, 1, 88, 0}, {7, 1, 33, 0}};
        for (int i = 0; i < seconds.length; i++) {
            EnginesOnList x = Checks.with("e33k00000000;e38k10000000;");
            x.reading(0, 0, 33, 0);
            x.reading(seconds[i][0], seconds[i][1], seconds[i][2], seconds[i][3]);
            Checks.due("clash(0), second " + i, x.clash(0), i == 0 ? 1 : 0);
            Checks.due("clash(1), second " + i, x.clash(1), i == 0 ? 1 : -9);
        }
        EnginesOnList days = new EnginesOnList();
        days.reading(1100, 0, 99, 0);
        days.reading(1100, 4, 99, 3);
        Checks.due("clash(0) on the last day", days.clash(0), 1);
    }

    /** "the first (12 times the first's place and the second's; -9)": each two of the twelve. */
    private static void clashTheFirst() {
        for (int first = 0; first < 12; first++) {
            for (int second = first + 1; second < 12; second++) {
                EnginesOnList x = new EnginesOnList();
                for (int i = 0; i < 12; i++) {
                    x.reading(i == second ? first : i, i == second ? 1 : 0, 10, 0);
                }
                Checks.due("clash(0)", x.clash(0), 1);
                Checks.due("clash(1)", x.clash(1), 12 * first + second);
            }
        }
        EnginesOnList x = new EnginesOnList();
        int[] days = {1, 2, 3, 3, 2, 1};
        for (int i = 0; i < days.length; i++) {
            x.reading(days[i], i / 3, 10, 0);
        }
        Checks.due("clash(0) of three", x.clash(0), 3);
        Checks.due("clash(1), the least of the first ones", x.clash(1), 5);
        x.reading(1, 2, 10, 0);
        Checks.due("clash(1), the least of the second ones", x.clash(1), 5);
        x.forget();
        x.forget();
        Checks.due("clash(1), the next", x.clash(1), 12 + 4);
    }

    /** "-2." */
    private static void clashRefused() {
        EnginesOnList x = new EnginesOnList();
        for (int what : new int[] {-1, 2, 3, Integer.MIN_VALUE, Integer.MAX_VALUE}) {
            Checks.refused(x, "clash(" + what + ")", () -> x.clash(what), -2);
        }
    }

    /** "SEEN IN ALL: ENGINES (bits) that FIT alone some reading": none, each, all seven. */
    private static void seenInAllNoneAndAll() {
        EnginesOnList x = Checks.with(KEPT_AT_0, MORE_AT_0);
        Checks.due("sure() of an empty book", x.sure(), 0);
        read(x, 99);
        Checks.due("sure() of a reading that is made up", x.sure(), 0);
        int bits = 0;
        for (int e = 6; e >= 0; e--) {
            read(x, 10 + e);
            bits |= 1 << e;
            Checks.due("sure()", x.sure(), bits);
        }
        Checks.due("sure(), all", x.sure(), 127);
        read(x, 10, 10);
        Checks.due("sure(), one twice", x.sure(), 127);
        EnginesOnList y = Checks.with(KEPT_AT_0);
        read(y, 13);
        Checks.due("sure(), by the only reading", y.sure(), 8);
    }

    /** "alone": not where another FITS too; by another reading it may be, also by a MISREAD number. */
    private static void seenInAllAlone() {
        EnginesOnList x = Checks.with("e33c00111111;e88c00222222;e38n09999999;");
        x.reading(0, 0, 33, 0);
        Checks.due("sure(), two fit", x.sure(), 0);
        x.reading(1, 2, 33, 0);
        Checks.due("sure(), only the second fits", x.sure(), 2);
        x.reading(2, 1, 83, 0);
        Checks.due("sure(), the first too", x.sure(), 3);
        Checks.land(x, "e83k10000000;");
        Checks.due("sure(), the first no more", x.sure(), 2);
    }

    /** "the greatest less 9, times how many unlike ones and 1, by how many unlike ones, cut, less 1; 0 nothing READ." */
    private static void manyOfNoneOneAndTwelve() {
        EnginesOnList x = new EnginesOnList();
        Checks.due("many() of an empty book", x.many(), 0);
        for (int number = 10; number <= 99; number++) {
            read(x, number);
            Checks.due("many() of " + number, x.many(), 2 * (number - 9) - 1);
            x.forget();
        }
        Checks.due("many(), forgotten", x.many(), 0);
        // 90 times 2 by 1, 3 by 2, .., 13 by 12, each cut and less 1.
        int[] wanted = {179, 134, 119, 111, 107, 104, 101, 100, 99, 98, 97, 96};
        for (int unlike = 1; unlike <= 12; unlike++) {
            read(x, 100 - unlike);
            Checks.due("many() of " + unlike + " unlike ones", x.many(), wanted[unlike - 1]);
        }
        EnginesOnList least = new EnginesOnList();
        for (int unlike = 1; unlike <= 12; unlike++) {
            read(least, 9 + unlike);
            Checks.due("many() of the " + unlike + " least", least.many(), unlike);
        }
    }

    /** "by numbers that were READ, just as READ": alike ones once, MISREAD ones not; ENGINES do not matter. */
    private static void manyJustAsRead() {
        EnginesOnList x = Checks.with("e33k00000000;");
        read(x, 33, 33, 33);
        Checks.due("many() of 33 thrice", x.many(), 24 * 2 - 1);
        read(x, 38);
        Checks.due("many() of 33, 38", x.many(), 29 * 3 / 2 - 1);
        read(x, 33, 38, 88);
        Checks.due("many() of 33, 38, 88", x.many(), 79 * 4 / 3 - 1);
        x.reading(1100, 4, 33, 3);
        Checks.due("many(), 33 elsewhere", x.many(), 79 * 4 / 3 - 1);
        EnginesOnList backwards = new EnginesOnList();
        read(backwards, 21, 12);
        Checks.due("many(), the greatest is the first", backwards.many(), 12 * 3 / 2 - 1);
        read(backwards, 99, 11);
        Checks.due("many(), the greatest is the third", backwards.many(), 90 * 5 / 4 - 1);
    }

    /** "cut": 2 times 3 by 2 is 3, 4 times 3 by 2 is 6, 3 times 3 by 2 is 4 and some; 5 times 4 by 3 is 6 and more. */
    private static void manyCut() {
        EnginesOnList x = new EnginesOnList();
        read(x, 10, 11);
        Checks.due("many() of 10, 11", x.many(), 2);
        read(x, 12);
        x.forget();
        x.forget();
        read(x, 12);
        Checks.due("many() of 10, 12, cut", x.many(), 3);
        x.forget();
        read(x, 13);
        Checks.due("many() of 10, 13", x.many(), 5);
        read(x, 14);
        Checks.due("many() of 10, 13, 14, cut", x.many(), 5);
    }
}
