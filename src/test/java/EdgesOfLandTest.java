/** The edges of "Terms" from ENGINES to FAULT, and of promises 1 to 5: each method has the sentence it looks at. */
public final class EdgesOfLandTest {
    private static final String E10 = "e10c00000000;";
    private static final String[] STATEMENTS = {E10, "j1112;", "u11;", "f11;"};
    /** What may stand at each place of them: 0 a digit, c a letter of a KIND, ! the first of a STATEMENT. */
    private static final String[] SHAPES = {"!00c00000000;", "!0000;", "!00;", "!00;"};
    private static final String SIXTY = "u10;u10;u10;u10;u10;u10;u10;u10;u10;u10;u10;u10;u10;u10;u10;";

    public static void main(String[] args) {
        noEngines();
        letterFrom0To255();
        letters64AtMost();
        lettersAreNoMore();
        everyLetterAtEveryPlace();
        theEndIfSomethingLacks();
        atLeastOneStatement();
        theFirstLetterOfAFault();
        faultsAtTheEndOfAFullText();
        kind1GoesBeforeKind2();
        theFirstStatementAtFault();
        behindAllAheadOfIt();
        howManyStatements();
        sevenEnginesAtMost();
        numberFrom10To99();
        numbersAllUnlike();
        kindsAndFigures();
        aPlaceOrNineForEachDay();
        noSuchEngineAheadOfIt();
        inOnePairAtMost();
        withOneFaultNothingComes();
        nothingIsCounted();
        whatAnEngineTells();
        turnOnADayOfTheWeek();
        Checks.end("EdgesOfLandTest");
    }

    private static void land(EnginesOnList x, String text, int want) {
        Checks.due("land of " + text, Checks.land(x, text), want);
    }

    /** The answer to the text behind ENGINES 10, 11 and 12. */
    private static void landOfThree(String text, int want) {
        land(Checks.with(E10 + "e11c00000000;e12c00000000;"), text, want);
    }

    /** "No ENGINES." */
    private static void noEngines() {
        EnginesOnList x = new EnginesOnList();
        for (int what = 0; what <= 16; what++) {
            boolean none = what >= 8 && what <= 10;
            Checks.due("count(" + what + ") of a new object", x.count(what), none ? -9 : 0);
        }
        for (int place = 0; place < 5; place++) {
            Checks.due("pass of a new object", x.pass(place, 0), 0);
            Checks.due("fresh of a new object", x.fresh(place, 14), 0);
        }
        int[] answers = {x.where(1), x.plan(5, 20, -1), x.plan(5, 20, 4), x.ever(), x.all(), x.madeUp(), x.liars(),
            x.clash(0), x.sure(), x.pairs(60, 0), x.many(), x.more(), x.seeds(30, 0), x.image()};
        for (int i = 0; i < answers.length; i++) {
            Checks.due("answer " + i + " of a new object", answers[i], 0);
        }
        Checks.due("clash(1) of a new object", x.clash(1), -9);
        Checks.due("pairs(60, 1) of a new object", x.pairs(60, 1), -9);
        Checks.due("engine(0, 0) of a new object", x.engine(0, 0), -1);
    }

    /** "A letter (0 .. 255) comes: how many there are. -4; -6 (255 ..)": one below and one above do not come. */
    private static void letterFrom0To255() {
        EnginesOnList x = new EnginesOnList();
        Checks.due("letter(0)", x.letter(0), 1);
        Checks.refused(x, "letter(-1)", () -> x.letter(-1), -4);
        Checks.due("letter(255)", x.letter(255), 2);
        Checks.refused(x, "letter(256)", () -> x.letter(256), -6);
        Checks.due("count(6)", x.count(6), 2);
        for (int c = 0; c <= 255; c++) {
            EnginesOnList y = new EnginesOnList();
            Checks.due("letter(" + c + ")", y.letter(c), 1);
        }
        EnginesOnList z = Checks.with(E10);
        Checks.letters(z, "u1");
        z.letter(256);
        z.letter(-1);
        z.letter(256 + '0');
        Checks.letters(z, "0");
        z.letter(-'9');
        land(z, ";", 1);
    }

    /** "64 at most", "-6 (.. 64, too)"; a letter below 0 is below, also then. */
    private static void letters64AtMost() {
        EnginesOnList x = Checks.with(E10);
        Checks.letters(x, SIXTY);
        Checks.due("count(6)", x.count(6), 60);
        Checks.due("letter 61", x.letter('u'), 61);
        Checks.due("letter 62", x.letter('1'), 62);
        Checks.due("letter 63", x.letter('0'), 63);
        Checks.due("letter 64", x.letter(';'), 64);
        Checks.refused(x, "letter 65", () -> x.letter('x'), -6);
        Checks.refused(x, "letter 65 of 0", () -> x.letter(0), -6);
        Checks.refused(x, "letter 65 of 256", () -> x.letter(256), -6);
        Checks.refused(x, "letter 65 of -1", () -> x.letter(-1), -4);
        Checks.due("count(6)", x.count(6), 64);
        Checks.due("land() of 64 letters", x.land(), 16);
        Checks.letters(x, SIXTY + "u10;");
        Checks.due("count(6), 64 anew", x.count(6), 64);
        Checks.refused(x, "letter 65 anew", () -> x.letter(';'), -6);
    }

    /** "The letters become a LAND, and are no more (with a FAULT neither)." */
    private static void lettersAreNoMore() {
        EnginesOnList x = Checks.with(E10);
        land(x, "u10;", 1);
        Checks.due("count(6) behind a land", x.count(6), 0);
        Checks.due("letter behind a land", x.letter('u'), 1);
        Checks.due("land() of one letter", x.land(), -1001);
        Checks.due("count(6) behind a fault of kind 1", x.count(6), 0);
        Checks.due("letter behind a fault of kind 1", x.letter('u'), 1);
        land(x, "11;", -2000);
        Checks.due("count(6) behind a fault of kind 2", x.count(6), 0);
        Checks.due("letter behind a fault of kind 2", x.letter('u'), 1);
        Checks.letters(x, "10;");
        Checks.due("count(6)", x.count(6), 4);
        Checks.due("land() of what came since", x.land(), 1);
    }

    private static boolean mayStand(char shape, int c) {
        String signs = shape == '0' ? "0123456789" : shape == 'c' ? "cawkxsn" : shape == '!' ? "ejuf" : ";";
        return signs.indexOf(c) >= 0;
    }

    /** "The place of the first letter with which no LAND can go on": every letter at every place of a STATEMENT. */
    private static void everyLetterAtEveryPlace() {
        for (int s = 0; s < STATEMENTS.length; s++) {
            for (int place = 0; place < STATEMENTS[s].length(); place++) {
                for (int c = 0; c <= 255; c++) {
                    StringBuilder text = new StringBuilder(STATEMENTS[s]);
                    text.setCharAt(place, (char) c);
                    int answer = Checks.land(new EnginesOnList(), text.toString());
                    Checks.holds(text + " (" + c + " at " + place + ") answered " + answer,
                            (answer == -1000 - place) != mayStand(SHAPES[s].charAt(place), c));
                }
            }
        }
    }

    /** "(the end, if something lacks)": each beginning of each STATEMENT, first in the text and behind another. */
    private static void theEndIfSomethingLacks() {
        for (String statement : STATEMENTS) {
            for (int length = 1; length < statement.length(); length++) {
                String begun = statement.substring(0, length);
                landOfThree(begun, -1000 - length);
                landOfThree("u10;" + begun, -1004 - length);
            }
        }
    }

    /** "At least one STATEMENT." */
    private static void atLeastOneStatement() {
        EnginesOnList x = new EnginesOnList();
        Checks.due("land() of nothing", x.land(), -1000);
        Checks.due("land() of nothing again", x.land(), -1000);
        land(x, ";", -1000);
        land(x, E10, 1);
        Checks.due("land() of nothing behind a land", x.land(), -1000);
        Checks.due("count(0)", x.count(0), 1);
    }

    /** "FAULT: kind 1 the place of the first letter ..": of several wrong ones the first. */
    private static void theFirstLetterOfAFault() {
        landOfThree("x", -1000);
        landOfThree(";u10;", -1000);
        landOfThree("uxx;", -1001);
        landOfThree("u10;;x", -1004);
        landOfThree("u10; u10;", -1004);
        landOfThree("u10;f1x;ux", -1006);
        landOfThree("e13c000000000;", -1012);
        landOfThree("e13c0000000;", -1011);
        landOfThree("e100c00000000;", -1003);
        landOfThree("j101112;", -1005);
        landOfThree("U10;", -1000);
        landOfThree("e13C00000000;", -1003);
    }

    /** The last place of a letter is 63, the end of a full text is 64. */
    private static void faultsAtTheEndOfAFullText() {
        landOfThree(SIXTY + "x", -1060);
        landOfThree(SIXTY + "u100", -1063);
        landOfThree(SIXTY + "j101", -1064);
        landOfThree(SIXTY + "e13c", -1064);
        landOfThree(SIXTY + "u10", -1063);
        landOfThree(SIXTY + "u13;", -2060);
        landOfThree(SIXTY + "u12;", 16);
    }

    /** "kind 1 ..; else kind 2": a wrong letter is told, however late, before a wrong STATEMENT, however early. */
    private static void kind1GoesBeforeKind2() {
        landOfThree("u99;", -2000);
        landOfThree("u99;x", -1004);
        landOfThree("u99;u", -1005);
        landOfThree("e00c05555555;e10c00000000", -1025);
        landOfThree("u99" + SIXTY.substring(3) + "u10x", -1063);
    }

    /** "kind 2 the place of the first letter of the first STATEMENT that .. is not as it must be." */
    private static void theFirstStatementAtFault() {
        landOfThree("u13;", -2000);
        landOfThree("u10;u13;", -2004);
        landOfThree("u10;u13;u13;", -2004);
        landOfThree("e13c00000000;j1014;", -2013);
        landOfThree("j1011;u13;", -2006);
        landOfThree("u13;e13c00000000;", -2000);
    }

    /** "behind all ahead of it in the text": what is ahead of it has come for it, from earlier texts too. */
    private static void behindAllAheadOfIt() {
        landOfThree("e13c00000000;u13;f13;j1013;", 4);
        landOfThree("e13c00000000;e13c00000000;", -2013);
        landOfThree("j1011;j1210;", -2006);
        landOfThree("j1110;e13c00000000;j1213;", 3);
        landOfThree("u10;f11;j1210;", 3);
    }

    /** "how many STATEMENTS": from one to the sixteen that 64 letters hold. */
    private static void howManyStatements() {
        for (int n = 1; n <= 16; n++) {
            landOfThree((SIXTY + "u10;").substring(0, 4 * n), n);
        }
        landOfThree(E10.replace("10", "13"), 1);
        landOfThree("j1011;", 1);
        landOfThree("f10;", 1);
    }

    /** "ENGINES 0 .. 6 as they come (7 at most)", "no room for more". */
    private static void sevenEnginesAtMost() {
        EnginesOnList x = new EnginesOnList();
        for (int e = 0; e < 7; e++) {
            Checks.due("engine " + e + " before it came", x.engine(e, 0), -1);
            land(x, "e" + (90 - e) + "c00000000;", 1);
            Checks.due("engine " + e, x.engine(e, 0), 90 - e);
            Checks.due("count(0)", x.count(0), e + 1);
        }
        land(x, "e10c00000000;", -2000);
        land(x, "u90;e10c00000000;", -2004);
        land(x, "e90c00000000;", -2000);
        Checks.due("count(0), no eighth", x.count(0), 7);
        Checks.due("engine(7, 0)", x.engine(7, 0), -1);
        Checks.due("count(2), not underlined either", x.count(2), 0);
        land(x, "u84;f84;j8490;", 3);
        EnginesOnList six = Checks.with("e20c00000000;e21c00000000;e22c00000000;e23c00000000;", "e24c00000000;e25c00000000;");
        land(six, "e26c00000000;e27c00000000;", -2013);
        Checks.due("count(0), neither came", six.count(0), 6);
        land(six, "e27c00000000;", 1);
        Checks.due("engine(6, 0)", six.engine(6, 0), 27);
    }

    /** "NUMBER (10 .. 99 ..)", "a number out of range": each number of two digits. */
    private static void numberFrom10To99() {
        for (int number = 0; number <= 99; number++) {
            EnginesOnList x = new EnginesOnList();
            String digits = (number < 10 ? "0" : "") + number;
            land(x, "e" + digits + "c00000000;", number < 10 ? -2000 : 1);
            Checks.due("count(0)", x.count(0), number < 10 ? 0 : 1);
            Checks.due("its number", x.engine(0, 0), number < 10 ? -1 : number);
            land(x, "u" + digits + ";", number < 10 ? -2000 : 1);
        }
    }

    /** "all unlike", "one twice": in one text, in two, and again when ON has taken it away. */
    private static void numbersAllUnlike() {
        landOfThree("e10c00000000;", -2000);
        landOfThree("e12n91234012;", -2000);
        landOfThree("e13c00000000;e13a11111111;", -2013);
        landOfThree("e13c00000000;e31c00000000;", 2);
        EnginesOnList x = new EnginesOnList();
        x.image();
        land(x, E10, 1);
        land(x, E10, -2000);
        x.on();
        land(x, E10, 1);
        land(x, "e11c00000000;e12c00000008;", -2013);
        land(x, "e11c00000000;", 1);
    }

    /** "a letter of a KIND, FIGURE (a digit)", "FIGURE (0 .. 9)": each KIND with each FIGURE. */
    private static void kindsAndFigures() {
        String kinds = "cawkxsn";
        for (int kind = 0; kind < 7; kind++) {
            for (int figure = 0; figure <= 9; figure++) {
                EnginesOnList x = new EnginesOnList();
                land(x, "e10" + kinds.charAt(kind) + figure + "0000000;", 1);
                Checks.due("its kind", x.engine(0, 1), kind);
                Checks.due("its figure", x.engine(0, 2), figure);
            }
        }
    }

    /** "for each of 7 days of the week a PLACE (0 .. 4; 9: in its shed)": each digit on each day. */
    private static void aPlaceOrNineForEachDay() {
        for (int day = 0; day < 7; day++) {
            for (int digit = 0; digit <= 9; digit++) {
                EnginesOnList x = new EnginesOnList();
                StringBuilder turn = new StringBuilder("3333333");
                turn.setCharAt(day, (char) ('0' + digit));
                boolean may = digit <= 4 || digit == 9;
                land(x, "e10c0" + turn + ";", may ? 1 : -2000);
                Checks.due("turn on day " + day, x.turn(0, day), may ? digit : -1);
                Checks.due("turn on another day", x.turn(0, (day + 1) % 7), may ? 3 : -1);
            }
        }
    }

    /** "no such ENGINE ahead of it": for "u", "f" and either NUMBER of "j". */
    private static void noSuchEngineAheadOfIt() {
        String[] statements = {"u13;", "f13;", "j1013;", "j1310;", "j1314;", "u00;", "f09;", "j1000;", "j0010;"};
        for (String statement : statements) {
            landOfThree(statement, -2000);
            landOfThree(statement + "e13c00000000;", -2000);
            landOfThree("e14c00000000;" + statement, -2013);
        }
        for (String statement : new String[] {"u13;", "f13;", "j1013;", "j1310;"}) {
            landOfThree("e13c00000000;" + statement, 2);
        }
        land(new EnginesOnList(), "u10;", -2000);
        land(new EnginesOnList(), "f10;", -2000);
        land(new EnginesOnList(), "j1010;", -2000);
    }

    /** "each in one such pair at most", "one twice": either of a pair, as either of another, and one with itself. */
    private static void inOnePairAtMost() {
        for (String wrong : new String[] {"j1010;", "j1212;", "j1011;", "j1110;", "j1012;", "j1210;", "j1112;", "j1211;"}) {
            boolean withItself = wrong.equals("j1010;") || wrong.equals("j1212;");
            landOfThree(wrong, withItself ? -2000 : 1);
            landOfThree("j1011;" + wrong, -2006);
            EnginesOnList x = Checks.with(E10 + "e11c00000000;e12c00000000;", "j1011;");
            land(x, wrong, -2000);
            Checks.due("engine(0, 3)", x.engine(0, 3), 1);
            Checks.due("engine(1, 3)", x.engine(1, 3), 0);
            Checks.due("engine(2, 3)", x.engine(2, 3), -9);
        }
        EnginesOnList three = Checks.with(E10 + "e11c00000000;e12c00000000;e13c00000000;", "e14c00000000;e15c00000000;e16c00000000;");
        land(three, "j1610;j1115;j1412;", 3);
        int[] joined = {6, 5, 4, -9, 2, 1, 0};
        for (int e = 0; e < 7; e++) {
            Checks.due("engine(" + e + ", 3)", three.engine(e, 3), joined[e]);
        }
        land(three, "j1313;", -2000);
        land(three, "j1310;", -2000);
    }

    /** "Without FAULT all of it comes, with one nothing": an e, a j, a u and an f ahead of the fault. */
    private static void withOneFaultNothingComes() {
        String[] ends = {"u99;", "u1", "x"};
        int[] faults = {-2027, -1029, -1027};
        for (int i = 0; i < ends.length; i++) {
            EnginesOnList x = Checks.with(E10 + "e11n00000000;e12c00000000;");
            land(x, "e13n00000000;j1011;u12;f12;" + ends[i], faults[i]);
            int[] counts = {3, 0, 0, 4, 0, 0, 0, 0};
            for (int what = 0; what < counts.length; what++) {
                Checks.due("count(" + what + ") behind " + ends[i], x.count(what), counts[what]);
            }
            Checks.due("engine(0, 3)", x.engine(0, 3), -9);
            Checks.due("engine(1, 3)", x.engine(1, 3), -9);
            Checks.due("engine(3, 0)", x.engine(3, 0), -1);
            land(x, "e13n00000000;j1011;u12;f12;", 4);
            int[] all = {4, 0, 1, 3, 0, 0, 0, 1};
            for (int what = 0; what < all.length; what++) {
                Checks.due("count(" + what + ") without fault", x.count(what), all[what]);
            }
        }
    }

    /** "the FAULT (nothing is counted)": no REFUSAL, however many. */
    private static void nothingIsCounted() {
        EnginesOnList x = new EnginesOnList();
        for (String text : new String[] {"", "x", "u", "u10;", "e09c00000000;", "e10c05000000;"}) {
            Checks.land(x, text);
        }
        for (int what = 11; what <= 16; what++) {
            Checks.due("count(" + what + ") behind faults", x.count(what), 0);
        }
    }

    /** "0 NUMBER, .., 3 to which it is JOINED (-9), .., 6 1 he has it. -1; -2." */
    private static void whatAnEngineTells() {
        EnginesOnList x = Checks.with("e99x70000000;");
        int[] wanted = {99, 4, 7, -9, 0, 0, 0};
        for (int what = 0; what <= 6; what++) {
            Checks.due("engine(0, " + what + ")", x.engine(0, what), wanted[what]);
        }
        Checks.refused(x, "engine(0, 7)", () -> x.engine(0, 7), -2);
        Checks.refused(x, "engine(0, -1)", () -> x.engine(0, -1), -2);
        Checks.refused(x, "engine(1, 0)", () -> x.engine(1, 0), -1);
        Checks.refused(x, "engine(-1, 0)", () -> x.engine(-1, 0), -1);
        Checks.refused(x, "engine(1, 7)", () -> x.engine(1, 7), -1);
        land(x, "u99;f99;", 2);
        for (int what = 4; what <= 6; what++) {
            Checks.due("engine(0, " + what + ")", x.engine(0, what), 1);
        }
    }

    /** "the PLACE on a day of the week (0 .. 6); 9. -1; -4; -6." */
    private static void turnOnADayOfTheWeek() {
        EnginesOnList x = Checks.with("e10k34999990;");
        Checks.due("turn(0, 0)", x.turn(0, 0), 4);
        Checks.due("turn(0, 5)", x.turn(0, 5), 9);
        Checks.due("turn(0, 6)", x.turn(0, 6), 0);
        Checks.refused(x, "turn(0, -1)", () -> x.turn(0, -1), -4);
        Checks.refused(x, "turn(0, 7)", () -> x.turn(0, 7), -6);
        Checks.refused(x, "turn(1, 0)", () -> x.turn(1, 0), -1);
        Checks.refused(x, "turn(1, -1)", () -> x.turn(1, -1), -1);
        Checks.refused(x, "turn(-1, 7)", () -> x.turn(-1, 7), -1);
    }
}
