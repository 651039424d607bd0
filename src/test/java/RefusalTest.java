/**
 * Each refusal of each promise, the first that fits in the promise's order; and that nothing changes then but how
 * many there were: a second object goes the same way without the refused call, and must answer the same ever after.
 */
public final class RefusalTest {
    private static final int MIN = Integer.MIN_VALUE;
    private static final int MAX = Integer.MAX_VALUE;

    private interface Call {
        int on(EnginesOnList x);
    }

    private interface Making {
        EnginesOnList make();
    }

    public static void main(String[] args) {
        ofLettersAndEngines();
        ofDays();
        ofPlans();
        ofTheBook();
        ofTheRest();
        whenFull();
        whenEmpty();
        whenLate();
        Checks.end("RefusalTest");
    }

    /** Some of everything: letters and a row that are half told, an image of another state. */
    private static EnginesOnList some() {
        EnginesOnList x = Checks.with("e10c00123401;e33a41234099;e38w10000111;e83k70000000;", "e50x33210321;j3310;u38;f50;");
        x.image();
        Checks.land(x, "e61s22222333;e62n04444444;j6183;f61;");
        x.rest(8);
        x.stand(1);
        x.reading(1, 1, 10, 0);
        x.reading(1, 2, 10, 1);
        x.reading(7, 0, 88, 2);
        x.reading(7, 2, 83, 3);
        x.row(2);
        x.row(3);
        Checks.letters(x, "u6");
        return x;
    }

    private static EnginesOnList full() {
        EnginesOnList x = some();
        while (x.count(4) < 12) {
            x.reading(3, 3, 38, 3);
        }
        while (x.count(5) < 14) {
            x.row(1);
        }
        Checks.letters(x, "2;u10;u10;u10;u10;u10;u10;u10;u10;u10;u10;u10;u10;u10;u10;u10;".substring(0, 62));
        return x;
    }

    private static EnginesOnList late() {
        EnginesOnList x = some();
        Checks.restTo(x, 999);
        return x;
    }

    private static void refused(Making making, String name, int code, Call call) {
        EnginesOnList x = making.make();
        EnginesOnList twin = making.make();
        for (int i = 1; i <= 2; i++) {
            Checks.due(name + ", time " + i, call.on(x), code);
        }
        for (int what = 11; what <= 16; what++) {
            int more = what == 10 - code ? 2 : 0;
            Checks.due("count(" + what + ") behind " + name, x.count(what), twin.count(what) + more);
        }
        Checks.same("behind " + name, x, twin);
        sameFromNow(making, name, call);
    }

    /** Other objects than those that were asked all, to keep within 512 calls each. */
    private static void sameFromNow(Making making, String name, Call call) {
        EnginesOnList x = making.make();
        EnginesOnList twin = making.make();
        call.on(x);
        Checks.due("letter behind " + name, x.letter('1'), twin.letter('1'));
        Checks.due("letter behind " + name, x.letter(';'), twin.letter(';'));
        Checks.due("land behind " + name, x.land(), twin.land());
        Checks.due("row behind " + name, x.row(0), twin.row(0));
        Checks.due("judge behind " + name, x.judge(5), twin.judge(5));
        Checks.due("stand behind " + name, x.stand(4), twin.stand(4));
        Checks.due("more behind " + name, x.more(), twin.more());
        Checks.due("on behind " + name, x.on(), twin.on());
        Checks.same("behind on and " + name, x, twin);
    }

    private static void some(String name, int code, Call call) {
        refused(RefusalTest::some, name, code, call);
    }

    private static void ofLettersAndEngines() {
        some("letter(-1)", -4, x -> x.letter(-1));
        some("letter(min)", -4, x -> x.letter(MIN));
        some("letter(256)", -6, x -> x.letter(256));
        some("letter(max)", -6, x -> x.letter(MAX));
        some("engine(7, 7)", -1, x -> x.engine(7, 7));
        some("engine(-1, -1)", -1, x -> x.engine(-1, -1));
        some("engine(min, 0)", -1, x -> x.engine(MIN, 0));
        some("engine(max, 0)", -1, x -> x.engine(MAX, 0));
        some("engine(6, 7)", -2, x -> x.engine(6, 7));
        some("engine(0, -1)", -2, x -> x.engine(0, -1));
        some("engine(0, min)", -2, x -> x.engine(0, MIN));
        some("turn(7, -1)", -1, x -> x.turn(7, -1));
        some("turn(-1, 7)", -1, x -> x.turn(-1, 7));
        some("turn(6, -1)", -4, x -> x.turn(6, -1));
        some("turn(0, min)", -4, x -> x.turn(0, MIN));
        some("turn(6, 7)", -6, x -> x.turn(6, 7));
        some("turn(0, max)", -6, x -> x.turn(0, MAX));
        some("at(7, -1)", -1, x -> x.at(7, -1));
        some("at(-1, 1101)", -1, x -> x.at(-1, 1101));
        some("at(6, -1)", -4, x -> x.at(6, -1));
        some("at(0, min)", -4, x -> x.at(0, MIN));
        some("at(6, 1101)", -6, x -> x.at(6, 1101));
        some("at(0, max)", -6, x -> x.at(0, MAX));
        some("pass(5, -1)", -1, x -> x.pass(5, -1));
        some("pass(-1, 1101)", -1, x -> x.pass(-1, 1101));
        some("pass(0, -1)", -4, x -> x.pass(0, -1));
        some("pass(4, 1101)", -6, x -> x.pass(4, 1101));
    }

    private static void ofDays() {
        some("stand(5)", -1, x -> x.stand(5));
        some("stand(-1)", -1, x -> x.stand(-1));
        some("stand(9)", -1, x -> x.stand(9));
        some("stand(max)", -1, x -> x.stand(MAX));
        some("stand(min)", -1, x -> x.stand(MIN));
        some("rest(0)", -4, x -> x.rest(0));
        some("rest(min)", -4, x -> x.rest(MIN));
        some("rest(61)", -6, x -> x.rest(61));
        some("rest(max)", -6, x -> x.rest(MAX));
        some("underline(7, 2)", -1, x -> x.underline(7, 2));
        some("underline(-1, -1)", -1, x -> x.underline(-1, -1));
        some("underline(6, 2)", -2, x -> x.underline(6, 2));
        some("underline(0, -1)", -2, x -> x.underline(0, -1));
        some("underline(0, max)", -2, x -> x.underline(0, MAX));
        some("fresh(5, 0)", -1, x -> x.fresh(5, 0));
        some("fresh(-1, 15)", -1, x -> x.fresh(-1, 15));
        some("fresh(0, 0)", -4, x -> x.fresh(0, 0));
        some("fresh(4, min)", -4, x -> x.fresh(4, MIN));
        some("fresh(4, 15)", -6, x -> x.fresh(4, 15));
        some("fresh(0, max)", -6, x -> x.fresh(0, MAX));
        some("where(0)", -4, x -> x.where(0));
        some("where(min)", -4, x -> x.where(MIN));
        some("where(15)", -6, x -> x.where(15));
        some("where(max)", -6, x -> x.where(MAX));
    }

    private static void ofPlans() {
        some("plan(0, 0, -1)", -4, x -> x.plan(0, 0, -1));
        some("plan(1, -1, -1)", -4, x -> x.plan(1, -1, -1));
        some("plan(1, 0, -2)", -4, x -> x.plan(1, 0, -2));
        some("plan(6, 0, -1)", -6, x -> x.plan(6, 0, -1));
        some("plan(1, 21, -1)", -6, x -> x.plan(1, 21, -1));
        some("plan(0, 21, 0)", -4, x -> x.plan(0, 21, 0));
        some("plan(6, -1, 0)", -4, x -> x.plan(6, -1, 0));
        some("plan(6, 21, -2)", -4, x -> x.plan(6, 21, -2));
        some("plan(min, 0, 0)", -4, x -> x.plan(MIN, 0, 0));
        some("plan(1, min, 0)", -4, x -> x.plan(1, MIN, 0));
        some("plan(1, 0, min)", -4, x -> x.plan(1, 0, MIN));
        some("plan(6, 0, max)", -6, x -> x.plan(6, 0, MAX));
        some("plan(5, 21, 5)", -6, x -> x.plan(5, 21, 5));
        some("plan(max, max, -1)", -6, x -> x.plan(MAX, MAX, -1));
        some("await(7, 0)", -1, x -> x.await(7, 0));
        some("await(-1, 0)", -1, x -> x.await(-1, 0));
        some("await(0, 5)", -1, x -> x.await(0, 5));
        some("await(0, -1)", -1, x -> x.await(0, -1));
        some("await(0, 9)", -1, x -> x.await(0, 9));
        some("await(7, 5)", -1, x -> x.await(7, 5));
        some("chase(7)", -1, x -> x.chase(7));
        some("chase(-1)", -1, x -> x.chase(-1));
        some("chase(max)", -1, x -> x.chase(MAX));
    }

    private static void ofTheBook() {
        some("reading by place 5", -1, x -> x.reading(-1, 5, 9, 0));
        some("reading by place -1", -1, x -> x.reading(1101, -1, 100, 0));
        some("reading by boy 4", -1, x -> x.reading(-1, 0, 9, 4));
        some("reading by boy 5", -1, x -> x.reading(0, 0, 10, 5));
        some("reading by boy max", -1, x -> x.reading(0, 0, 10, MAX));
        some("reading at place 9", -1, x -> x.reading(0, 9, 10, 0));
        some("reading by boy -1", -1, x -> x.reading(1101, 0, 100, -1));
        some("reading on day -1", -4, x -> x.reading(-1, 0, 100, 0));
        some("reading on day min", -4, x -> x.reading(MIN, 0, 10, 0));
        some("reading of 9", -4, x -> x.reading(1101, 0, 9, 0));
        some("reading on day 1101", -6, x -> x.reading(1101, 0, 10, 0));
        some("reading on day max", -6, x -> x.reading(MAX, 0, 10, 0));
        some("reading of 100", -6, x -> x.reading(0, 0, 100, 0));
        some("fitting(4, 2)", -1, x -> x.fitting(4, 2));
        some("fitting(-1, -1)", -1, x -> x.fitting(-1, -1));
        some("fitting(12, 0)", -1, x -> x.fitting(12, 0));
        some("fitting(max, 0)", -1, x -> x.fitting(MAX, 0));
        some("fitting(3, 2)", -2, x -> x.fitting(3, 2));
        some("fitting(0, -1)", -2, x -> x.fitting(0, -1));
        some("clash(2)", -2, x -> x.clash(2));
        some("clash(-1)", -2, x -> x.clash(-1));
    }

    private static void ofTheRest() {
        some("pairs(0, 2)", -4, x -> x.pairs(0, 2));
        some("pairs(min, -1)", -4, x -> x.pairs(MIN, -1));
        some("pairs(61, 2)", -6, x -> x.pairs(61, 2));
        some("pairs(max, -1)", -6, x -> x.pairs(MAX, -1));
        some("pairs(60, 2)", -2, x -> x.pairs(60, 2));
        some("pairs(1, -1)", -2, x -> x.pairs(1, -1));
        some("seeds(0, 0)", -4, x -> x.seeds(0, 0));
        some("seeds(min, 0)", -4, x -> x.seeds(MIN, 0));
        some("seeds(31, 0)", -6, x -> x.seeds(31, 0));
        some("seeds(max, 0)", -6, x -> x.seeds(MAX, 0));
        some("row(-1)", -4, x -> x.row(-1));
        some("row(10)", -6, x -> x.row(10));
        some("row(max)", -6, x -> x.row(MAX));
        some("judge(7)", -1, x -> x.judge(7));
        some("judge(-1)", -1, x -> x.judge(-1));
    }

    private static void whenFull() {
        refused(RefusalTest::full, "letter 65", -6, x -> x.letter('u'));
        refused(RefusalTest::full, "letter(256) when full", -6, x -> x.letter(256));
        refused(RefusalTest::full, "row(10) when full", -6, x -> x.row(10));
        refused(RefusalTest::full, "reading 13 of 100", -6, x -> x.reading(0, 0, 100, 0));
        refused(RefusalTest::full, "reading 13 by boy 4", -1, x -> x.reading(-1, 0, 9, 4));
        refused(RefusalTest::full, "letter(-1) when full", -4, x -> x.letter(-1));
        refused(RefusalTest::full, "reading 13", -6, x -> x.reading(0, 0, 10, 0));
        refused(RefusalTest::full, "reading 13 of 9", -4, x -> x.reading(0, 0, 9, 0));
        refused(RefusalTest::full, "reading 13 at place 5", -1, x -> x.reading(0, 5, 9, 0));
        refused(RefusalTest::full, "row 15", -6, x -> x.row(0));
        refused(RefusalTest::full, "row(-1) when full", -4, x -> x.row(-1));
        refused(RefusalTest::full, "fitting(12, 0)", -1, x -> x.fitting(12, 0));
    }

    private static void whenEmpty() {
        refused(EnginesOnList::new, "forget()", -3, EnginesOnList::forget);
        refused(EnginesOnList::new, "on()", -3, EnginesOnList::on);
        refused(EnginesOnList::new, "engine(0, 0)", -1, x -> x.engine(0, 0));
        refused(EnginesOnList::new, "turn(0, 0)", -1, x -> x.turn(0, 0));
        refused(EnginesOnList::new, "at(0, 0)", -1, x -> x.at(0, 0));
        refused(EnginesOnList::new, "underline(0, 1)", -1, x -> x.underline(0, 1));
        refused(EnginesOnList::new, "await(0, 0)", -1, x -> x.await(0, 0));
        refused(EnginesOnList::new, "chase(0)", -1, x -> x.chase(0));
        refused(EnginesOnList::new, "judge(0)", -1, x -> x.judge(0));
        refused(EnginesOnList::new, "await(0, 5)", -1, x -> x.await(0, 5));
        refused(EnginesOnList::new, "engine(0, 7)", -1, x -> x.engine(0, 7));
        refused(EnginesOnList::new, "turn(0, 7)", -1, x -> x.turn(0, 7));
        refused(EnginesOnList::new, "at(0, -1)", -1, x -> x.at(0, -1));
        refused(EnginesOnList::new, "underline(0, 2)", -1, x -> x.underline(0, 2));
        refused(EnginesOnList::new, "fitting(0, 2)", -1, x -> x.fitting(0, 2));
        refused(EnginesOnList::new, "fitting(0, 0)", -1, x -> x.fitting(0, 0));
    }

    private static void whenLate() {
        refused(RefusalTest::late, "stand(0) on day 999", -6, x -> x.stand(0));
        refused(RefusalTest::late, "stand(5) on day 999", -1, x -> x.stand(5));
        refused(RefusalTest::late, "rest(1) on day 999", -6, x -> x.rest(1));
        refused(RefusalTest::late, "rest(60) on day 999", -6, x -> x.rest(60));
        refused(RefusalTest::late, "rest(-1) on day 999", -4, x -> x.rest(-1));
        refused(RefusalTest::late, "stand(-1) on day 999", -1, x -> x.stand(-1));
        refused(RefusalTest::late, "rest(0) on day 999", -4, x -> x.rest(0));
    }
}
