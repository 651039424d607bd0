/** Promises 1 (a new object), 2 (letter), 3 (land). */
public final class LandTest {
    private static final String E10 = "e10c00000000;";

    public static void main(String[] args) {
        newObject();
        letters();
        statements();
        faultsOfLetters();
        faultsOfStatements();
        whatIsNoFault();
        roomForSeven();
        faultLeavesNothing();
        Checks.end("LandTest");
    }

    private static void newObject() {
        EnginesOnList x = new EnginesOnList();
        for (int what = -1; what <= 18; what++) {
            boolean known = what >= 0 && what <= 7 || what >= 11 && what <= 16;
            Checks.due("count(" + what + ") of a new object", x.count(what), known ? 0 : -9);
        }
        Checks.due("engine(0, 0) of a new object", x.engine(0, 0), -1);
        Checks.due("forget() of a new object", x.forget(), -3);
        Checks.due("on() of a new object", x.on(), -3);
        Checks.due("land() of a new object", x.land(), -1000);
    }

    private static void letters() {
        EnginesOnList x = new EnginesOnList();
        Checks.due("letter(0)", x.letter(0), 1);
        Checks.due("letter(255)", x.letter(255), 2);
        Checks.refused(x, "letter(-1)", () -> x.letter(-1), -4);
        Checks.refused(x, "letter(min)", () -> x.letter(Integer.MIN_VALUE), -4);
        Checks.refused(x, "letter(256)", () -> x.letter(256), -6);
        Checks.refused(x, "letter(max)", () -> x.letter(Integer.MAX_VALUE), -6);
        Checks.due("count(6)", x.count(6), 2);
        for (int i = 3; i <= 64; i++) {
            Checks.due("letter " + i, x.letter('e'), i);
        }
        Checks.refused(x, "letter 65", () -> x.letter('e'), -6);
        Checks.refused(x, "letter(-1) when full", () -> x.letter(-1), -4);
        Checks.due("count(6) when full", x.count(6), 64);
        Checks.due("land()", x.land(), -1000);
        Checks.due("count(6) behind land", x.count(6), 0);
        Checks.due("letter behind land", x.letter('e'), 1);
    }

    private static void statements() {
        EnginesOnList x = new EnginesOnList();
        Checks.due("two engines", Checks.land(x, E10 + "e99n91234012;"), 2);
        Checks.due("count(0)", x.count(0), 2);
        Checks.due("count(6)", x.count(6), 0);
        Checks.due("engine(1, 0)", x.engine(1, 0), 99);
        Checks.due("engine(1, 1)", x.engine(1, 1), 6);
        Checks.due("engine(1, 2)", x.engine(1, 2), 9);
        Checks.due("turn(1, 3)", x.turn(1, 3), 4);
        Checks.due("j, u, f of earlier ones", Checks.land(x, "j9910;u99;f10;"), 3);
        Checks.due("engine(0, 3)", x.engine(0, 3), 1);
        Checks.due("engine(1, 3)", x.engine(1, 3), 0);
        Checks.due("engine(0, 4)", x.engine(0, 4), 0);
        Checks.due("engine(1, 4)", x.engine(1, 4), 1);
        Checks.due("engine(0, 5)", x.engine(0, 5), 1);
        Checks.due("engine(1, 5)", x.engine(1, 5), 0);
        EnginesOnList y = new EnginesOnList();
        Checks.due("of engines in the same text", Checks.land(y, E10 + "u10;f10;e11c00000000;j1011;"), 5);
        Checks.due("count(2)", y.count(2), 1);
        Checks.due("count(7)", y.count(7), 1);
        EnginesOnList z = new EnginesOnList();
        String filler = "u10;u10;u10;u10;u10;u10;u10;u10;u10;u10;u10;";
        Checks.due("62 letters", Checks.land(z, E10 + filler + "f10;"), 13);
        EnginesOnList full = Checks.with(E10, "e11c00000000;");
        String sixteen = "u10;u11;f10;f11;u10;u11;f10;f11;u10;u11;f10;f11;u10;u11;f10;f11;";
        Checks.due("64 letters", Checks.land(full, sixteen), 16);
    }

    private static void fault(String text, int want) {
        EnginesOnList x = Checks.with(E10);
        Checks.due("land of " + text, Checks.land(x, text), want);
        Checks.due("count(6) behind " + text, x.count(6), 0);
        Checks.due("count(0) behind " + text, x.count(0), 1);
        Checks.due("count(2) behind " + text, x.count(2), 0);
        for (int what = 11; what <= 16; what++) {
            Checks.due("count(" + what + ") behind " + text, x.count(what), 0);
        }
    }

    private static void faultsOfLetters() {
        fault("", -1000);
        fault(";", -1000);
        fault("E11c00000000;", -1000);
        fault((char) 255 + "", -1000);
        fault("e", -1001);
        fault("ea1c00000000;", -1001);
        fault("e1", -1002);
        fault("e1c00000000;", -1002);
        fault("e11", -1003);
        fault("e11e00000000;", -1003);
        fault("e11C00000000;", -1003);
        fault("e11" + (char) 0 + "00000000;", -1003);
        fault("e11c", -1004);
        fault("e11cc0000000;", -1004);
        fault("e11c0000000/;", -1011);
        fault("e11c0000000:;", -1011);
        fault("e11c00000000", -1012);
        fault("e11c000000000;", -1012);
        fault("e11c00000000;;", -1013);
        fault("e11c00000000;x", -1013);
        fault("u10", -1003);
        fault("u1;", -1002);
        fault("u100;", -1003);
        fault("f10,", -1003);
        fault("fx", -1001);
        fault("j1010", -1005);
        fault("j101;", -1004);
        fault("j10101;", -1005);
        fault("j10;", -1003);
        fault("u10;u10;u10;u10;u10;u10;u10;u10;u10;u10;u10;u10;u10;u10;u10;u101", -1063);
        fault("u10;u10;u10;u10;u10;u10;u10;u10;u10;u10;u10;u10;u10;u10;u10;f100", -1063);
        fault("u10;u10;u10;u10;u10;u10;u10;u10;u10;u10;u10;u10;u10;e11c00000000", -1064);
        fault("e09c00000000;u", -1014);
    }

    private static void faultsOfStatements() {
        fault("e09c00000000;", -2000);
        fault("e00c00000000;", -2000);
        fault(E10, -2000);
        fault("e11c05000000;", -2000);
        fault("e11c00000008;", -2000);
        fault("e11c06000000;", -2000);
        fault("e11k07000000;", -2000);
        fault("u11;", -2000);
        fault("f11;", -2000);
        fault("u00;", -2000);
        fault("j1011;", -2000);
        fault("j1110;", -2000);
        fault("j1010;", -2000);
        fault("u11;e11c00000000;", -2000);
        fault("u10;u11;", -2004);
        fault("e11c00000000;e11n00000000;", -2013);
        fault("e11c00000000;e12c00000000;j1012;j1110;", -2032);
        fault("e11c00000000;e12c00000000;j1012;j1112;", -2032);
        fault("e11c00000000;j1011;j1110;", -2019);
        fault("u10;f12;e12c00000000;u98;", -2004);
    }

    private static void whatIsNoFault() {
        EnginesOnList x = new EnginesOnList();
        Checks.due("an away one of figure 9", Checks.land(x, "e10a90123499;"), 1);
        Checks.due("underlined twice", Checks.land(x, "u10;u10;"), 2);
        Checks.due("underlined again", Checks.land(x, "u10;"), 1);
        Checks.due("on the friend's list twice", Checks.land(x, "f10;f10;f10;"), 3);
        Checks.due("count(2)", x.count(2), 1);
        Checks.due("count(7)", x.count(7), 1);
        Checks.due("others of both lists", Checks.land(x, "e11c00000000;e12c00000000;u11;f12;"), 4);
        Checks.due("count(2), both", x.count(2), 2);
        Checks.due("count(7), both", x.count(7), 2);
        Checks.due("engine(0, 4)", x.engine(0, 4), 1);
        Checks.due("engine(0, 5)", x.engine(0, 5), 1);
    }

    private static void roomForSeven() {
        EnginesOnList x = new EnginesOnList();
        Checks.due("four engines", Checks.land(x, E10 + "e11c00000000;e12c00000000;e13c00000000;"), 4);
        Checks.due("four more", Checks.land(x, "e14c00000000;e15c00000000;e16c00000000;e17c00000000;"), -2039);
        Checks.due("count(0)", x.count(0), 4);
        Checks.due("three more", Checks.land(x, "e14c00000000;e15c00000000;e16c00000000;"), 3);
        Checks.due("count(0)", x.count(0), 7);
        Checks.due("an eighth", Checks.land(x, "e17c00000000;"), -2000);
        Checks.due("u of the seventh", Checks.land(x, "u16;"), 1);
        Checks.due("engine(6, 4)", x.engine(6, 4), 1);
        Checks.due("count(0)", x.count(0), 7);
    }

    private static void faultLeavesNothing() {
        EnginesOnList x = Checks.with(E10 + "e11c00000000;");
        Checks.due("a fault at the end", Checks.land(x, "u10;f11;j1011;e12n01111111;u13;"), -2027);
        Checks.due("count(0)", x.count(0), 2);
        Checks.due("count(2)", x.count(2), 0);
        Checks.due("count(7)", x.count(7), 0);
        Checks.due("count(3)", x.count(3), 2);
        Checks.due("engine(0, 3)", x.engine(0, 3), -9);
        Checks.due("all but the fault", Checks.land(x, "u10;f11;j1011;e12n01111111;"), 4);
        Checks.due("count(3)", x.count(3), 2);
    }
}
