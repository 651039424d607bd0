/** The edges of THE IMAGE and ON in "Terms", and of promises 31 to 33: each method has the sentence it looks at. */
public final class EdgesOfImageTest {
    private interface Change {
        void on(EnginesOnList x);
    }

    public static void main(String[] args) {
        onWithoutImage();
        imageOfANewObject();
        imageTellsToday();
        allThatIsTold();
        todayAsThen();
        theListAsThen();
        theBookAsThen();
        notTheRow();
        notTheLetters();
        notTheRefusals();
        imageOfAll();
        onAgainAndAgain();
        theLatestImage();
        imageStaysAsItWas();
        asThenForWhatComes();
        countsOfANewObject();
        countsAtTheirGreatest();
        countsOfRefusals();
        countsOfNothingElse();
        Checks.end("EdgesOfImageTest");
    }

    private static EnginesOnList some() {
        EnginesOnList x = Checks.with("e10c00123401;e33a41234099;e38w10000111;e83k70000000;", "j3310;u38;f83;");
        x.rest(8);
        x.reading(1, 1, 10, 0);
        x.reading(8, 2, 88, 2);
        x.reading(3, 0, 77, 1);
        return x;
    }

    /** Behind ON all is as it would be without the change. */
    private static void asThen(String name, Change change) {
        EnginesOnList x = some();
        EnginesOnList twin = some();
        Checks.due("image() ahead of " + name, x.image(), 8);
        change.on(x);
        Checks.due("on() behind " + name, x.on(), 8);
        Checks.same("behind on(), " + name, x, twin);
    }

    /** "-3 there is none." */
    private static void onWithoutImage() {
        EnginesOnList x = new EnginesOnList();
        Checks.refused(x, "on() of a new object", x::on, -3);
        EnginesOnList y = some();
        Checks.refused(y, "on()", y::on, -3);
        Checks.refused(y, "on() again", y::on, -3);
        Checks.due("count(1)", y.count(1), 8);
        Checks.due("image()", y.image(), 8);
        Checks.due("on() when there is one", y.on(), 8);
    }

    private static void imageOfANewObject() {
        EnginesOnList x = new EnginesOnList();
        Checks.due("image()", x.image(), 0);
        Checks.land(x, "e10n04444444;e11c00000000;u10;f10;j1011;");
        x.stand(4);
        x.reading(0, 4, 10, 0);
        Checks.due("on()", x.on(), 0);
        for (int what = 0; what <= 7; what++) {
            Checks.due("count(" + what + ")", x.count(what), 0);
        }
        Checks.due("engine(0, 0)", x.engine(0, 0), -1);
        Checks.due("on() of nothing again", x.on(), 0);
    }

    /** "THE IMAGE is taken: TODAY", "ON from it: TODAY", from 0 to 999. */
    private static void imageTellsToday() {
        EnginesOnList x = Checks.with("e10c00123401;");
        for (int today : new int[] {0, 1, 60, 998, 999}) {
            Checks.restTo(x, today);
            Checks.due("image()", x.image(), today);
            Checks.due("on()", x.on(), today);
        }
        Checks.refused(x, "rest(1) at 999", () -> x.rest(1), -6);
        EnginesOnList y = new EnginesOnList();
        y.rest(1);
        y.image();
        Checks.restTo(y, 999);
        Checks.due("on() from 999", y.on(), 1);
        Checks.due("rest(60)", y.rest(60), 61);
    }

    /** "all that is told": ENGINES, JOINED ones, the FRIEND's list. */
    private static void allThatIsTold() {
        asThen("nothing", x -> { });
        asThen("an engine", x -> Checks.land(x, "e11s01234012;"));
        asThen("three engines", x -> Checks.land(x, "e11s01234012;e12n09999999;e13x10000000;"));
        asThen("a pair", x -> Checks.land(x, "j3883;"));
        asThen("one on the friend's list", x -> Checks.land(x, "f10;"));
        asThen("a fault", x -> Checks.land(x, "f10;f11;"));
    }

    /** "TODAY". */
    private static void todayAsThen() {
        asThen("a day", x -> x.rest(1));
        asThen("sixty days", x -> x.rest(60));
        asThen("all days", x -> Checks.restTo(x, 999));
    }

    /** "the LIST". */
    private static void theListAsThen() {
        asThen("one underlined", x -> x.underline(0, 1));
        asThen("one not underlined", x -> x.underline(2, 0));
        asThen("one underlined by its number", x -> Checks.land(x, "u83;"));
        asThen("standing", x -> x.stand(2));
    }

    /** "the BOOK": more, fewer, none, full, others. */
    private static void theBookAsThen() {
        asThen("a reading more", x -> x.reading(0, 0, 33, 3));
        asThen("a reading forgotten", EnginesOnList::forget);
        asThen("all forgotten", x -> {
            x.forget();
            x.forget();
            x.forget();
        });
        asThen("a full book", x -> {
            for (int i = 0; i < 9; i++) {
                x.reading(i, 3, 33 + i, 2);
            }
        });
        asThen("other readings", x -> {
            x.forget();
            x.forget();
            x.forget();
            x.reading(8, 3, 99, 3);
            x.reading(8, 4, 99, 3);
            x.reading(8, 4, 99, 3);
        });
    }

    /** "not the ROW": it stays as it is now, longer or none. */
    private static void notTheRow() {
        EnginesOnList x = some();
        x.row(4);
        x.image();
        x.row(2);
        x.on();
        Checks.due("count(5), longer", x.count(5), 2);
        Checks.due("judge(3), the second counts", x.judge(3), 0);
        x.on();
        Checks.due("count(5), none", x.count(5), 0);
        x.row(2);
        x.row(1);
        x.on();
        Checks.due("judge(3), as told since", x.judge(3), 1);
        for (int i = 0; i < 14; i++) {
            x.row(2);
        }
        x.on();
        Checks.due("count(5), full", x.count(5), 14);
        x.image();
        Checks.due("count(5) behind image()", x.count(5), 14);
    }

    /** "letters". */
    private static void notTheLetters() {
        EnginesOnList x = some();
        Checks.letters(x, "u1");
        x.image();
        Checks.due("count(6) behind image()", x.count(6), 2);
        Checks.letters(x, "0");
        x.on();
        Checks.due("count(6) behind on()", x.count(6), 3);
        Checks.due("land() of letters from both sides", Checks.land(x, ";"), 1);
        Checks.due("count(2)", x.count(2), 2);
        x.on();
        Checks.due("count(6), none", x.count(6), 0);
        Checks.due("count(2) as then", x.count(2), 1);
    }

    /** "REFUSALS": they stay as they are now, those of ON too. */
    private static void notTheRefusals() {
        EnginesOnList x = some();
        x.on();
        x.rest(0);
        x.image();
        x.rest(0);
        x.rest(61);
        x.judge(9);
        x.clash(9);
        x.on();
        int[] wanted = {1, 1, 1, 2, 0, 1};
        for (int i = 0; i < wanted.length; i++) {
            Checks.due("count(" + (11 + i) + ")", x.count(11 + i), wanted[i]);
        }
    }

    /** Seven ENGINES, three pairs, both lists, a full BOOK, TODAY 999. */
    private static EnginesOnList full() {
        EnginesOnList x = Checks.with("e10c90123404;e11a31111111;e12w22222222;e13k30000000;",
                "e14x43333333;e15s54444444;e16n60000009;", "j1016;j1511;j1214;u10;u11;u13;f12;f13;f16;");
        for (int i = 0; i < 12; i++) {
            x.reading(i, i % 5, 10 + i, i % 4);
        }
        Checks.restTo(x, 999);
        return x;
    }

    /** Where all is as much as it can be. */
    private static void imageOfAll() {
        EnginesOnList x = full();
        Checks.due("image() of all", x.image(), 999);
        for (int e = 0; e < 7; e++) {
            x.underline(e, 1 - x.engine(e, 4));
        }
        for (int i = 0; i < 12; i++) {
            x.forget();
        }
        x.reading(1100, 4, 99, 3);
        Checks.due("on()", x.on(), 999);
        Checks.same("behind on() from all", x, full());
    }

    /** ON takes nothing from THE IMAGE. */
    private static void onAgainAndAgain() {
        EnginesOnList x = some();
        x.image();
        for (int i = 1; i <= 3; i++) {
            x.rest(i);
            x.underline(i, 1);
            x.forget();
            Checks.due("on(), time " + i, x.on(), 8);
            Checks.due("on() at once again", x.on(), 8);
        }
        Checks.same("behind on() again and again", x, some());
    }

    /** An IMAGE taken later is the one that is gone on from. */
    private static void theLatestImage() {
        EnginesOnList x = some();
        x.image();
        x.rest(1);
        x.forget();
        Checks.due("image() anew", x.image(), 9);
        x.rest(1);
        Checks.due("on() from the later one", x.on(), 9);
        Checks.due("count(4)", x.count(4), 2);
        Checks.due("on() again", x.on(), 9);
    }

    /** What comes behind image(), and behind on(), does not reach into it. */
    private static void imageStaysAsItWas() {
        for (int times = 0; times <= 1; times++) {
            EnginesOnList x = some();
            x.image();
            if (times == 1) {
                x.on();
            }
            Checks.land(x, "e11s01234012;j8338;u10;f33;");
            x.stand(1);
            x.forget();
            x.forget();
            x.reading(2, 2, 22, 3);
            x.on();
            Checks.same("behind on(), " + times, x, some());
        }
    }

    /** As then for what comes behind it: room for ENGINES, NUMBERS, pairs and readings. */
    private static void asThenForWhatComes() {
        EnginesOnList x = some();
        x.image();
        Checks.land(x, "e11c00000000;e12c00000000;e13c00000000;j3883;");
        for (int i = 0; i < 9; i++) {
            x.reading(0, 0, 10, 0);
        }
        Checks.due("an eighth engine", Checks.land(x, "e14c00000000;"), -2000);
        Checks.due("a thirteenth reading", x.reading(0, 0, 10, 0), -6);
        x.on();
        Checks.due("three engines", Checks.land(x, "e13n00000000;e12n00000000;e11n00000000;"), 3);
        Checks.due("engine(4, 0)", x.engine(4, 0), 13);
        Checks.due("a pair", Checks.land(x, "j8338;"), 1);
        Checks.due("a second pair of one", Checks.land(x, "j1013;"), -2000);
        Checks.due("a fourth reading", x.reading(0, 0, 10, 0), 4);
    }

    private static void countsOfANewObject() {
        EnginesOnList x = new EnginesOnList();
        for (int what = 0; what <= 7; what++) {
            Checks.due("count(" + what + ")", x.count(what), 0);
            Checks.due("count(" + (what + 10) + ")", x.count(what + 10), what < 1 || what > 6 ? -9 : 0);
        }
    }

    /** "0 ENGINES, 1 TODAY, 2 underlined ones, 3 NEW ones (as they count), 4 readings, .., 7 on the FRIEND's list". */
    private static void countsAtTheirGreatest() {
        EnginesOnList x = full();
        int[] wanted = {7, 999, 3, 1, 12, 0, 0, 3};
        for (int what = 0; what < wanted.length; what++) {
            Checks.due("count(" + what + ")", x.count(what), wanted[what]);
        }
        for (int i = 0; i < 14; i++) {
            x.row(9);
        }
        for (int i = 0; i < 64; i++) {
            x.letter(0);
        }
        Checks.due("count(5)", x.count(5), 14);
        Checks.due("count(6)", x.count(6), 64);
        EnginesOnList all = Checks.with("e10n00000000;e11n00000000;e12n00000000;e13n00000000;",
                "e14n00000000;e15n00000000;e16n00000000;", "f10;f11;f12;f13;f14;f15;f16;");
        Checks.due("count(3), all named", all.count(3), 14);
        Checks.due("count(7), all", all.count(7), 7);
        all.stand(0);
        Checks.due("count(2), all", all.count(2), 7);
    }

    /** "11 .. 16 REFUSALS -1 .. -6": each by itself; there is no -5. */
    private static void countsOfRefusals() {
        Change[] calls = {x -> x.chase(9), x -> x.clash(9), EnginesOnList::on, x -> x.rest(0), x -> x.count(0), x -> x.rest(61)};
        for (int i = 0; i < calls.length; i++) {
            EnginesOnList x = some();
            for (int time = 1; time <= 3; time++) {
                calls[i].on(x);
                for (int j = 0; j < 6; j++) {
                    Checks.due("count(" + (11 + j) + ")", x.count(11 + j), j == i && i != 4 ? time : 0);
                }
            }
        }
    }

    /** "-9 for another what", and no REFUSAL. */
    private static void countsOfNothingElse() {
        EnginesOnList x = full();
        int[] others = {-1, -2, -9, 8, 9, 10, 17, 18, 255, Integer.MIN_VALUE, Integer.MAX_VALUE};
        for (int other : others) {
            Checks.due("count(" + other + ")", x.count(other), -9);
        }
        for (int what = 11; what <= 16; what++) {
            Checks.due("count(" + what + ")", x.count(what), 0);
        }
    }
}
