/** Promises 13 (plan), 14 (await), 15 (chase), 16 (ever), 17 (all). */
public final class PlansTest {
    public static void main(String[] args) {
        plans();
        plansByCoin();
        plansFirstOfSeveral();
        plansWrong();
        plansJoined();
        awaits();
        chases();
        evers();
        alls();
        Checks.end("PlansTest");
    }

    private static void plan(EnginesOnList x, int n, int coin, int worth, int... places) {
        Checks.due("plan(" + n + ", " + coin + ", -1)", x.plan(n, coin, -1), worth);
        for (int i = 0; i < places.length; i++) {
            Checks.due("plan(" + n + ", " + coin + ", " + i + ")", x.plan(n, coin, i), places[i]);
        }
        Checks.due("plan(" + n + ", " + coin + ", " + n + ")", x.plan(n, coin, n), -9);
    }

    private static void plans() {
        EnginesOnList x = Checks.with("e10c00999999;e11c09499999;e12c09909999;e13c09994999;", "e14c09999099;");
        plan(x, 1, 0, 1, 0);
        plan(x, 2, 4, 2, 0, 4);
        plan(x, 3, 8, 3, 0, 4, 0);
        plan(x, 4, 12, 4, 0, 4, 0, 4);
        plan(x, 5, 16, 5, 0, 4, 0, 4, 0);
        plan(x, 5, 20, 5, 0, 4, 0, 4, 0);
        plan(x, 5, 15, 4, 0, 0, 0, 4, 0);
        x.rest(1);
        plan(x, 2, 3, 1, 0, 0);
        plan(x, 2, 4, 2, 4, 0);
        Checks.due("count(1)", x.count(1), 1);
        Checks.due("count(2)", x.count(2), 0);
    }

    private static void plansByCoin() {
        EnginesOnList x = Checks.with("e10c01999999;e11n09399999;e12c09919999;e13c09499999;");
        plan(x, 3, 0, 2, 1, 1, 1);
        plan(x, 3, 1, 2, 1, 1, 1);
        plan(x, 3, 2, 3, 1, 3, 3);
        plan(x, 3, 3, 3, 1, 3, 2);
        plan(x, 3, 4, 4, 1, 3, 1);
        x.underline(1, 1);
        plan(x, 3, 4, 2, 1, 0, 1);
        plan(x, 3, 6, 3, 1, 4, 1);
    }

    private static void plansFirstOfSeveral() {
        EnginesOnList x = Checks.with("e10k20000000;");
        plan(x, 3, 0, 1, 2, 2, 2);
        plan(x, 3, 2, 1, 0, 0, 2);
        plan(x, 5, 1, 1, 1, 1, 1, 1, 2);
        x.underline(0, 1);
        plan(x, 5, 20, 0, 0, 0, 0, 0, 0);
        plan(new EnginesOnList(), 5, 0, 0, 0, 0, 0, 0, 0);
        EnginesOnList y = Checks.with("e10k20000000;e11k40000000;");
        plan(y, 3, 2, 2, 2, 2, 4);
        plan(y, 3, 20, 2, 0, 2, 4);
        plan(y, 2, 20, 2, 2, 4);
        plan(y, 2, 1, 1, 1, 2);
    }

    private static void plansWrong() {
        EnginesOnList x = Checks.with("e10k20000000;");
        Checks.refused(x, "plan(0, 21, 0)", () -> x.plan(0, 21, 0), -4);
        Checks.refused(x, "plan(6, -1, 0)", () -> x.plan(6, -1, 0), -4);
        Checks.refused(x, "plan(6, 21, -2)", () -> x.plan(6, 21, -2), -4);
        Checks.refused(x, "plan(6, 20, -1)", () -> x.plan(6, 20, -1), -6);
        Checks.refused(x, "plan(5, 21, -1)", () -> x.plan(5, 21, -1), -6);
        Checks.refused(x, "plan(6, 0, 6)", () -> x.plan(6, 0, 6), -6);
        Checks.due("plan(5, 20, max)", x.plan(5, 20, Integer.MAX_VALUE), -9);
        Checks.due("plan(1, 0, 1)", x.plan(1, 0, 1), -9);
        Checks.due("count(14)", x.count(14), 3);
        Checks.due("count(16)", x.count(16), 3);
    }

    private static void plansJoined() {
        EnginesOnList x = Checks.with("e10n00999999;e11c03999999;e12c09499999;j1110;");
        plan(x, 2, 4, 3, 0, 4);
        plan(x, 2, 1, 3, 3, 4);
        EnginesOnList y = Checks.with("e10c00999999;e11n03999999;e12c09499999;j1110;");
        plan(y, 2, 0, 1, 0, 0);
        plan(y, 2, 1, 2, 3, 4);
    }

    private static void awaits() {
        EnginesOnList x = Checks.with("e10c00123404;e11x90123449;e12s09999999;");
        Checks.due("await(0, 0)", x.await(0, 0), 0);
        Checks.due("await(0, 4)", x.await(0, 4), 4);
        x.underline(0, 1);
        x.rest(5);
        Checks.due("await(0, 4) on day 5", x.await(0, 4), 1);
        Checks.due("await(0, 3) on day 5", x.await(0, 3), 5);
        Checks.due("await(2, 0)", x.await(2, 0), 2);
        Checks.refused(x, "await(3, 0)", () -> x.await(3, 0), -1);
        Checks.refused(x, "await(-1, 0)", () -> x.await(-1, 0), -1);
        Checks.refused(x, "await(0, 5)", () -> x.await(0, 5), -1);
        Checks.refused(x, "await(0, -1)", () -> x.await(0, -1), -1);
        Checks.refused(x, "await(0, 9)", () -> x.await(0, 9), -1);
        Checks.restTo(x, 58);
        Checks.due("await(1, 2) in the last week", x.await(1, 2), 0);
        Checks.due("await(1, 0) in the last week", x.await(1, 0), -9);
        Checks.due("await(1, 4) in the last week", x.await(1, 4), 2);
        EnginesOnList y = Checks.with("e10w91111119;e11w99999911;");
        // In week 0 both are in their sheds: 11 divides it.
        Checks.due("await(0, 1)", y.await(0, 1), 7);
        Checks.due("await(1, 1)", y.await(1, 1), 12);
        Checks.due("await(1, 0)", y.await(1, 0), -9);
    }

    private static void chases() {
        EnginesOnList x = Checks.with("e10c09999990;e11k00000000;e12a00123401;e13x13999999;");
        Checks.due("chase(0)", x.chase(0), 6);
        Checks.due("chase(1)", x.chase(1), 0);
        Checks.due("chase(2)", x.chase(2), -9);
        Checks.due("chase(3)", x.chase(3), 0);
        x.rest(1);
        Checks.due("chase(0)", x.chase(0), 5);
        Checks.due("chase(3)", x.chase(3), -9);
        Checks.refused(x, "chase(4)", () -> x.chase(4), -1);
        Checks.refused(x, "chase(-1)", () -> x.chase(-1), -1);
        longestChase();
    }

    /** No kind lets one that comes at all be longer in its shed than 13 days. */
    private static void longestChase() {
        EnginesOnList x = Checks.with("e10s09999999;e11c09999993;");
        Checks.due("chase(0)", x.chase(0), 13);
        Checks.due("await(0, 3)", x.await(0, 3), 13);
        Checks.due("await(1, 3)", x.await(1, 3), 6);
        Checks.restTo(x, 986);
        Checks.due("await(0, 3) on day 986", x.await(0, 3), 7);
        Checks.restTo(x, 999);
        Checks.due("chase(1) on day 999", x.chase(1), 1);
        Checks.due("chase(0) on day 999", x.chase(0), 8);
    }

    private static void evers() {
        EnginesOnList x = Checks.with("e10c09999990;e11k00000000;e12a00123401;e13x13999999;", "e14n09999999;e15n91234012;");
        Checks.due("ever()", x.ever(), 5);
        x.rest(1);
        Checks.due("ever() behind the scrapping", x.ever(), 4);
        x.underline(5, 1);
        Checks.due("ever() without a named one", x.ever(), 2);
        Checks.land(x, "j1214;");
        Checks.due("ever(), joined in their sheds", x.ever(), 2);
        EnginesOnList y = Checks.with("e10n09999999;e11c00000000;e12c01111111;e13n02222222;", "j1011;j1312;");
        Checks.due("ever(), joined ones as the lesser", y.ever(), 3);
        y.underline(0, 1);
        Checks.due("ever(), one joined is had", y.ever(), 1);
        Checks.due("ever() without engines", new EnginesOnList().ever(), 0);
        EnginesOnList z = Checks.with("e10n09999999;");
        Checks.due("ever(), always in its shed", z.ever(), 0);
    }

    private static void alls() {
        EnginesOnList x = Checks.with("e10c00999999;e11c09499999;e12c09909999;e13c09994999;", "e14c09999099;");
        Checks.due("all()", x.all(), 5);
        x.underline(4, 1);
        Checks.due("all()", x.all(), 4);
        x.underline(3, 1);
        Checks.due("all()", x.all(), 3);
        x.underline(2, 1);
        Checks.due("all()", x.all(), 2);
        x.underline(1, 1);
        Checks.due("all()", x.all(), 1);
        x.rest(1);
        Checks.due("all(), too late", x.all(), -9);
        x.underline(0, 1);
        Checks.due("all() with nothing new", x.all(), 0);
        Checks.due("all() without engines", new EnginesOnList().all(), 0);
        EnginesOnList six = Checks.with("e10c00999999;e11c01999999;");
        Checks.due("all(), two places on one day", six.all(), -9);
        Checks.land(six, "j1011;");
        Checks.due("all(), two places of a pair", six.all(), 1);
        EnginesOnList late = Checks.with("e10c09999909;");
        Checks.due("all(), on the sixth day", late.all(), -9);
        late.rest(1);
        Checks.due("all(), on the fifth day", late.all(), 5);
        Checks.due("count(1)", late.count(1), 1);
        EnginesOnList shed = Checks.with("e10n09999999;e11c00000000;");
        Checks.due("all(), one stays in its shed", shed.all(), -9);
        Checks.land(shed, "j1011;");
        Checks.due("all(), a joined one shows", shed.all(), 1);
    }
}
