/** Promises 25 (pairs), 27 (more). */
public final class CompanyTest {
    public static void main(String[] args) {
        pairsGoTogether();
        pairsFromToday();
        pairsWrong();
        moreThanTheFriend();
        moreOfJoined();
        Checks.end("CompanyTest");
    }

    private static void pairsGoTogether() {
        EnginesOnList x = Checks.with("e10c00123401;e11c00123409;e12s00123401;e13k00000000;");
        Checks.due("pairs(1, 0)", x.pairs(1, 0), 6);
        Checks.due("pairs(1, 1)", x.pairs(1, 1), 1);
        Checks.due("pairs(2, 0)", x.pairs(2, 0), 3);
        Checks.due("pairs(6, 0)", x.pairs(6, 0), 3);
        Checks.due("pairs(7, 0)", x.pairs(7, 0), 1);
        Checks.due("pairs(7, 1)", x.pairs(7, 1), 2);
        Checks.due("pairs(8, 0)", x.pairs(8, 0), 1);
        Checks.due("pairs(9, 0)", x.pairs(9, 0), 0);
        Checks.due("pairs(9, 1)", x.pairs(9, 1), -9);
        EnginesOnList first = Checks.with("e10c01000000;e11c02000000;");
        Checks.due("pairs(7, 0), unlike on the first day", first.pairs(7, 0), 0);
        first.rest(1);
        Checks.due("pairs(6, 0) from the second", first.pairs(6, 0), 1);
        EnginesOnList sheds = Checks.with("e10c09999999;e11a00123401;e12x09999999;e13c09999994;");
        Checks.due("pairs(60, 0) in sheds", sheds.pairs(60, 0), 3);
        Checks.due("pairs(60, 1) in sheds", sheds.pairs(60, 1), 1);
        Checks.due("pairs(6, 0) in sheds", sheds.pairs(6, 0), 6);
        EnginesOnList last = Checks.with("e10k00000000;e11k10000000;e12k20000000;e13k30000000;",
                "e14k40000000;e15w99123401;e16w99123401;");
        Checks.due("pairs(60, 1), the last two", last.pairs(60, 1), 56);
        Checks.due("pairs(60, 0), the last two", last.pairs(60, 0), 1);
    }

    private static void pairsFromToday() {
        EnginesOnList x = Checks.with("e10x80000000;e11x90000000;");
        Checks.due("pairs(56, 0)", x.pairs(56, 0), 1);
        Checks.due("pairs(57, 0)", x.pairs(57, 0), 0);
        x.rest(1);
        Checks.due("pairs(55, 0) on day 1", x.pairs(55, 0), 1);
        Checks.due("pairs(56, 0) on day 1", x.pairs(56, 0), 0);
        EnginesOnList sixty = Checks.with("e10k00000000;e11c00000009;");
        sixty.rest(1);
        Checks.due("pairs(5, 0)", sixty.pairs(5, 0), 1);
        Checks.due("pairs(6, 0)", sixty.pairs(6, 0), 0);
        EnginesOnList late = Checks.with("e10x80000000;e11x90000000;");
        late.rest(3);
        Checks.due("pairs(60, 0)", late.pairs(60, 0), 0);
        Checks.restTo(late, 63);
        Checks.due("pairs(60, 0), both scrapped", late.pairs(60, 0), 1);
        Checks.restTo(late, 999);
        Checks.due("pairs(60, 1) on day 999", late.pairs(60, 1), 1);
        EnginesOnList edge = Checks.with("e10k00000000;e11x80000000;");
        edge.rest(60);
        EnginesOnList early = Checks.with("e10k00000000;e11x90000000;");
        early.rest(3);
        Checks.due("pairs(60, 0) up to the last day", early.pairs(60, 0), 1);
        early.rest(1);
        Checks.due("pairs(60, 0) a day too far", early.pairs(60, 0), 0);
    }

    private static void pairsWrong() {
        EnginesOnList x = Checks.with("e10k00000000;e11k00000000;");
        Checks.refused(x, "pairs(0, 2)", () -> x.pairs(0, 2), -4);
        Checks.refused(x, "pairs(-1, 0)", () -> x.pairs(-1, 0), -4);
        Checks.refused(x, "pairs(61, 2)", () -> x.pairs(61, 2), -6);
        Checks.refused(x, "pairs(60, 2)", () -> x.pairs(60, 2), -2);
        Checks.refused(x, "pairs(1, -1)", () -> x.pairs(1, -1), -2);
        Checks.due("pairs(1, 0) without engines", new EnginesOnList().pairs(1, 0), 0);
        Checks.due("pairs(1, 1) without engines", new EnginesOnList().pairs(1, 1), -9);
    }

    private static void moreThanTheFriend() {
        EnginesOnList x = Checks.with("e10c00000000;e11n00000000;e12c00000000;e13c00000000;", "f12;f13;");
        Checks.due("more() of nothing", x.more(), 0);
        x.underline(0, 1);
        Checks.due("more() of one", x.more(), 1);
        x.underline(1, 1);
        Checks.due("more(), a named one", x.more(), 3);
        x.underline(2, 1);
        Checks.due("more(), one that the friend has", x.more(), 3);
        Checks.land(x, "f10;");
        Checks.due("more(), another that the friend has", x.more(), 2);
    }

    private static void moreOfJoined() {
        EnginesOnList x = Checks.with("e10c00000000;e11n00000000;e12n00000000;e13c00000000;", "j1011;j1312;");
        x.underline(1, 1);
        Checks.due("more(), joined ones as the lesser", x.more(), 1);
        x.underline(0, 1);
        Checks.due("more(), joined ones once", x.more(), 1);
        x.underline(3, 1);
        Checks.due("more(), the lesser is named", x.more(), 3);
        Checks.land(x, "f13;");
        Checks.due("more(), the friend has the greater", x.more(), 1);
        x.underline(3, 0);
        x.underline(2, 1);
        Checks.due("more(), the friend has the other of the two", x.more(), 1);
        Checks.land(x, "f10;");
        Checks.due("more(), the friend has the lesser", x.more(), 0);
    }
}
