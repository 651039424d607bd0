/** Promises 4 (engine), 5 (turn), 6 (at), 7 (pass). */
public final class EnginesTest {
    public static void main(String[] args) {
        engineTells();
        turnTells();
        common();
        away();
        works();
        kept();
        scrapped();
        swapped();
        named();
        passes();
        lastDays();
        Checks.end("EnginesTest");
    }

    private static void tells(EnginesOnList x, int engine, int... want) {
        for (int what = 0; what < want.length; what++) {
            Checks.due("engine(" + engine + ", " + what + ")", x.engine(engine, what), want[what]);
        }
    }

    private static void engineTells() {
        EnginesOnList x = Checks.with("e10c00000000;e21a10000000;e32w20000000;e43k30000000;",
                "e54x40000000;e65s50000000;e99n90000000;", "j9921;u21;f99;j1032;f32;");
        tells(x, 0, 10, 0, 0, 2, 0, 0, 0);
        tells(x, 1, 21, 1, 1, 6, 1, 0, 1);
        tells(x, 2, 32, 2, 2, 0, 0, 1, 0);
        tells(x, 3, 43, 3, 3, -9, 0, 0, 0);
        tells(x, 4, 54, 4, 4, -9, 0, 0, 0);
        tells(x, 5, 65, 5, 5, -9, 0, 0, 0);
        tells(x, 6, 99, 6, 9, 1, 0, 1, 1);
        Checks.refused(x, "engine(7, 0)", () -> x.engine(7, 0), -1);
        Checks.refused(x, "engine(-1, 7)", () -> x.engine(-1, 7), -1);
        Checks.refused(x, "engine(0, 7)", () -> x.engine(0, 7), -2);
        Checks.refused(x, "engine(6, -1)", () -> x.engine(6, -1), -2);
    }

    private static void turnTells() {
        EnginesOnList x = Checks.with("e10k70123499;e11a09432109;");
        int[] first = {0, 1, 2, 3, 4, 9, 9};
        int[] second = {9, 4, 3, 2, 1, 0, 9};
        for (int day = 0; day < 7; day++) {
            Checks.due("turn(0, " + day + ")", x.turn(0, day), first[day]);
            Checks.due("turn(1, " + day + ")", x.turn(1, day), second[day]);
        }
        Checks.refused(x, "turn(2, -1)", () -> x.turn(2, -1), -1);
        Checks.refused(x, "turn(-1, 7)", () -> x.turn(-1, 7), -1);
        Checks.refused(x, "turn(0, -1)", () -> x.turn(0, -1), -4);
        Checks.refused(x, "turn(0, 7)", () -> x.turn(0, 7), -6);
    }

    /** Whether an engine is, on these days, where the signs tell (9: in its shed). */
    private static void isAt(EnginesOnList x, int engine, int firstDay, String signs) {
        for (int i = 0; i < signs.length(); i++) {
            Checks.due("at(" + engine + ", " + (firstDay + i) + ")", x.at(engine, firstDay + i), signs.charAt(i) - '0');
        }
    }

    private static void common() {
        EnginesOnList x = Checks.with("e10c30123494;");
        isAt(x, 0, 0, "012349401234940123494");
        Checks.refused(x, "at(1, -1)", () -> x.at(1, -1), -1);
        Checks.refused(x, "at(-1, 0)", () -> x.at(-1, 0), -1);
        Checks.refused(x, "at(0, -1)", () -> x.at(0, -1), -4);
        Checks.refused(x, "at(0, 1101)", () -> x.at(0, 1101), -6);
    }

    private static void away() {
        EnginesOnList x = Checks.with("e10a00123401;e11a30123401;e12a60123401;e13a70123401;");
        isAt(x, 0, 0, "99999999999999");
        isAt(x, 1, 0, "01299990129999");
        isAt(x, 2, 0, "01234090123409");
        isAt(x, 3, 0, "01234010123401");
    }

    private static void works() {
        EnginesOnList x = Checks.with("e10w00123401;e11w10123401;e12w90123401;");
        isAt(x, 0, 0, "9999999" + "0123401" + "9999999" + "0123401");
        isAt(x, 1, 0, "9999999" + "0123401" + "0123401" + "9999999" + "0123401");
        isAt(x, 2, 0, "9999999" + "0123401");
        isAt(x, 2, 70, "0123401" + "9999999" + "0123401");
    }

    private static void kept() {
        EnginesOnList x = Checks.with("e10k09999999;e11k49999999;e12k50000000;e13k90000000;");
        isAt(x, 0, 0, "00000000");
        isAt(x, 1, 0, "44444444");
        isAt(x, 2, 0, "00000000");
        isAt(x, 3, 1095, "444444");
    }

    private static void scrapped() {
        EnginesOnList x = Checks.with("e10x00123401;e11x10123401;e12x90123401;");
        isAt(x, 0, 0, "99999999999999");
        isAt(x, 1, 0, "01234019999999");
        isAt(x, 2, 56, "01234019999999");
    }

    private static void swapped() {
        EnginesOnList alone = Checks.with("e10s00123401;");
        isAt(alone, 0, 0, "01234010123401");
        EnginesOnList x = Checks.with("e10s00123401;e11k34444444;e12s02222222;");
        isAt(x, 0, 0, "0123401" + "4444444" + "0123401" + "4444444");
        isAt(x, 2, 0, "2222222" + "0123401" + "2222222");
        Checks.land(x, "e13c01111111;");
        isAt(x, 2, 7, "1111111");
        EnginesOnList full = Checks.with("e10c01111111;e11c00000000;e12c00000000;e13c00000000;",
                "e14c00000000;e15c00000000;e16s02222222;");
        isAt(full, 6, 0, "2222222" + "1111111");
    }

    private static void named() {
        EnginesOnList x = Checks.with("e10n00123909;");
        isAt(x, 0, 0, "01239090123909");
    }

    private static void passes() {
        EnginesOnList x = Checks.with("e10c00123999;e11k09999999;e12x10111111;e13c09999990;");
        Checks.due("pass(0, 0)", x.pass(0, 0), 7);
        Checks.due("pass(1, 1)", x.pass(1, 1), 5);
        Checks.due("pass(0, 6)", x.pass(0, 6), 10);
        Checks.due("pass(1, 8)", x.pass(1, 8), 1);
        Checks.due("pass(4, 8)", x.pass(4, 8), 0);
        x.underline(0, 1);
        Checks.due("pass(0, 0) with one underlined", x.pass(0, 0), 7);
        Checks.due("count(1)", x.count(1), 0);
        Checks.refused(x, "pass(5, -1)", () -> x.pass(5, -1), -1);
        Checks.refused(x, "pass(-1, 1101)", () -> x.pass(-1, 1101), -1);
        Checks.refused(x, "pass(9, 0)", () -> x.pass(9, 0), -1);
        Checks.refused(x, "pass(4, -1)", () -> x.pass(4, -1), -4);
        Checks.refused(x, "pass(4, 1101)", () -> x.pass(4, 1101), -6);
    }

    private static void lastDays() {
        EnginesOnList x = Checks.with("e10c00123409;e11s02222222;");
        // Day 1100 is the second of week 157, an odd one.
        Checks.due("at(0, 1100)", x.at(0, 1100), 1);
        Checks.due("at(1, 1100)", x.at(1, 1100), 1);
        Checks.due("pass(1, 1100)", x.pass(1, 1100), 3);
        Checks.due("at(0, 1099)", x.at(0, 1099), 0);
        Checks.due("at(1, 1099)", x.at(1, 1099), 0);
    }
}
