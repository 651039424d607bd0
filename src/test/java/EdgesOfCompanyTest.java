/**
 * The edges of PAIRS, MORE than the FRIEND, the ROW and JUDGED in "Terms", and of promises 25, 27, 29, 30: each method
 * has the sentence it looks at.
 */
public final class EdgesOfCompanyTest {
    public static void main(String[] args) {
        pairsOfNoneOneAndAll();
        pairsTheFirst();
        pairsFrom1To60();
        pairsOnAllDays();
        pairsInSheds();
        pairsAtTheLastToday();
        pairsRefused();
        friendsListOfNoneAndOfAll();
        moreOfNoneAndOfAll();
        moreByTheFriend();
        moreOfJoinedAsTheyAreOnIt();
        rowFrom0To9();
        row14AtMost();
        judgedOfAnEmptyRow();
        judgedOfAFullRow();
        judgedFromToday();
        judgedOfEachPlace();
        judgedThenTheRowHasNone();
        judgedNobody();
        Checks.end("EdgesOfCompanyTest");
    }

    /** "how many": without ENGINES, one, two apart, two, and all 21 of seven. */
    private static void pairsOfNoneOneAndAll() {
        EnginesOnList x = new EnginesOnList();
        Checks.due("pairs(1, 0) without engines", x.pairs(1, 0), 0);
        Checks.due("pairs(60, 1) without engines", x.pairs(60, 1), -9);
        int[] wanted = {0, 1, 3, 6, 10, 15, 21};
        for (int e = 0; e < 7; e++) {
            Checks.land(x, "e" + (10 + e) + "k40000000;");
            Checks.due("pairs(1, 0) of " + (e + 1), x.pairs(1, 0), wanted[e]);
            Checks.due("pairs(60, 0) of " + (e + 1), x.pairs(60, 0), wanted[e]);
            Checks.due("pairs(60, 1) of " + (e + 1), x.pairs(60, 1), e == 0 ? -9 : 1);
        }
        Checks.land(x, "j1011;u10;");
        Checks.due("pairs(60, 0), joined and underlined ones too", x.pairs(60, 0), 21);
        EnginesOnList apart = Checks.with("e10k00000000;e11k10000000;e12k20000000;e13k30000000;", "e14k40000000;e15c09999999;");
        Checks.due("pairs(1, 0), five places and a shed", apart.pairs(1, 0), 0);
        Checks.due("pairs(1, 1), five places and a shed", apart.pairs(1, 1), -9);
    }

    /** "the first (10 times the lesser and the other; -9)": each two of the seven. */
    private static void pairsTheFirst() {
        for (int lesser = 0; lesser < 7; lesser++) {
            for (int other = lesser + 1; other < 7; other++) {
                EnginesOnList x = new EnginesOnList();
                for (int e = 0; e < 7; e++) {
                    int as = e == other ? lesser : e;
                    Checks.land(x, "e" + (10 + e) + "c00" + as / 5 + as % 5 + "1234;");
                }
                Checks.due("pairs(3, 0)", x.pairs(3, 0), 1);
                Checks.due("pairs(3, 1)", x.pairs(3, 1), 10 * lesser + other);
            }
        }
        EnginesOnList two = Checks.with("e10k00000000;e11k10000000;e12k10000000;e13k00000000;");
        Checks.due("pairs(1, 0)", two.pairs(1, 0), 2);
        Checks.due("pairs(1, 1), the least of the lesser ones", two.pairs(1, 1), 3);
    }

    /** "on all of n DAYS (1 .. 60) from TODAY": the n-th counts, the one behind it does not. */
    private static void pairsFrom1To60() {
        EnginesOnList x = Checks.with("e10k00000000;e11x90000000;");
        for (int today = 2; today <= 62; today++) {
            Checks.restTo(x, today);
            int left = 63 - today;
            if (left <= 60) {
                Checks.due("pairs(" + left + ", 0) on day " + today, x.pairs(left, 0), 1);
            }
            if (left < 60) {
                Checks.due("pairs(" + (left + 1) + ", 0) on day " + today, x.pairs(left + 1, 0), 0);
                Checks.due("pairs(" + (left + 1) + ", 1) on day " + today, x.pairs(left + 1, 1), -9);
            }
        }
        x.rest(1);
        Checks.due("pairs(1, 0) on day 63", x.pairs(1, 0), 0);
        EnginesOnList y = Checks.with("e10k00000000;e11x90000000;");
        y.rest(4);
        Checks.due("pairs(60, 0), the sixtieth is not so", y.pairs(60, 0), 0);
        Checks.due("pairs(59, 0), but for the sixtieth", y.pairs(59, 0), 1);
    }

    /** "on all": the first, one between, the last is otherwise; what was before TODAY does not matter. */
    private static void pairsOnAllDays() {
        for (int day = 0; day < 7; day++) {
            StringBuilder turn = new StringBuilder("3333333");
            turn.setCharAt(day, day % 2 == 0 ? '2' : '9');
            EnginesOnList x = Checks.with("e10k30000000;e11c0" + turn + ";");
            for (int n = 1; n <= 8; n++) {
                Checks.due("pairs(" + n + ", 0), otherwise on day " + day, x.pairs(n, 0), n <= day ? 1 : 0);
            }
            x.rest(day + 1);
            Checks.due("pairs(6, 0) behind day " + day, x.pairs(6, 0), 1);
            Checks.due("pairs(7, 0) behind day " + day, x.pairs(7, 0), 0);
        }
    }

    /** "are at one PLACE or both in sheds": one in its shed and one at a PLACE do not go together. */
    private static void pairsInSheds() {
        EnginesOnList x = Checks.with("e10x00000000;e11a01111111;e12w02222222;e13c09999999;", "e14k09999999;");
        Checks.due("pairs(7, 0), four in sheds", x.pairs(7, 0), 6);
        Checks.due("pairs(7, 1), four in sheds", x.pairs(7, 1), 1);
        Checks.due("pairs(8, 0), three in sheds", x.pairs(8, 0), 3);
        Checks.due("pairs(60, 0), three in sheds", x.pairs(60, 0), 3);
        EnginesOnList shed = Checks.with("e10k00000000;e11c09999999;");
        Checks.due("pairs(1, 0), one in its shed", shed.pairs(1, 0), 0);
    }

    private static void pairsAtTheLastToday() {
        EnginesOnList x = Checks.with("e10c00123404;e11s00123404;e12s00123404;e13c01111111;");
        Checks.restTo(x, 999);
        // Week 142 is even: it ends with day 1000, and the third goes by the fourth's turn from 1001 on.
        Checks.due("pairs(2, 0) at 999", x.pairs(2, 0), 3);
        Checks.due("pairs(3, 0) at 999", x.pairs(3, 0), 1);
        Checks.due("pairs(60, 1) at 999", x.pairs(60, 1), 1);
    }

    /** "-4; -6 60; -2." */
    private static void pairsRefused() {
        EnginesOnList x = Checks.with("e10k00000000;e11k00000000;");
        Checks.due("pairs(1, 0)", x.pairs(1, 0), 1);
        Checks.due("pairs(60, 1)", x.pairs(60, 1), 1);
        Checks.refused(x, "pairs(0, 0)", () -> x.pairs(0, 0), -4);
        Checks.refused(x, "pairs(61, 0)", () -> x.pairs(61, 0), -6);
        Checks.refused(x, "pairs(60, 2)", () -> x.pairs(60, 2), -2);
        Checks.refused(x, "pairs(1, -1)", () -> x.pairs(1, -1), -2);
        Checks.refused(x, "pairs(0, 2)", () -> x.pairs(0, 2), -4);
        Checks.refused(x, "pairs(0, -1)", () -> x.pairs(0, -1), -4);
        Checks.refused(x, "pairs(61, 2)", () -> x.pairs(61, 2), -6);
        Checks.refused(x, "pairs(61, -1)", () -> x.pairs(61, -1), -6);
    }

    /** "f a NUMBER: on the FRIEND's list", from none to all seven; it is not his own. */
    private static void friendsListOfNoneAndOfAll() {
        EnginesOnList x = Checks.with("e10k00000000;e11k00000000;e12k00000000;e13k00000000;",
                "e14k00000000;e15k00000000;e16k00000000;");
        for (int e = 0; e < 7; e++) {
            Checks.due("count(7)", x.count(7), e);
            Checks.due("engine(" + e + ", 5)", x.engine(e, 5), 0);
            Checks.land(x, "f" + (10 + e) + ";");
            Checks.due("engine(" + e + ", 5)", x.engine(e, 5), 1);
            Checks.due("engine(" + e + ", 6)", x.engine(e, 6), 0);
        }
        Checks.due("count(7), all", x.count(7), 7);
        Checks.due("count(2), none", x.count(2), 0);
        Checks.due("count(3), all", x.count(3), 7);
        Checks.land(x, "f10;");
        Checks.due("count(7), one twice", x.count(7), 7);
    }

    /** "how much he has that is not on the FRIEND's list": nothing, each, all, all NAMED. */
    private static void moreOfNoneAndOfAll() {
        Checks.due("more() without engines", new EnginesOnList().more(), 0);
        for (int named = 0; named <= 1; named++) {
            EnginesOnList x = new EnginesOnList();
            for (int e = 0; e < 7; e++) {
                Checks.land(x, "e" + (10 + e) + (named == 1 ? "n" : "c") + "00000000;");
            }
            Checks.due("more(), he has nothing", x.more(), 0);
            for (int e = 0; e < 7; e++) {
                x.underline(e, 1);
                Checks.due("more()", x.more(), (e + 1) * (1 + named));
            }
            for (int e = 0; e < 7; e++) {
                Checks.land(x, "f" + (10 + e) + ";");
                Checks.due("more(), the friend has more", x.more(), (6 - e) * (1 + named));
            }
        }
    }

    /** What the FRIEND has and he has not does not count, nor take away. */
    private static void moreByTheFriend() {
        EnginesOnList x = Checks.with("e10c00000000;e11c00000000;e12n00000000;", "f10;f12;");
        Checks.due("more(), he has nothing", x.more(), 0);
        x.underline(0, 1);
        Checks.due("more(), he has what the friend has", x.more(), 0);
        x.underline(1, 1);
        Checks.due("more(), one more", x.more(), 1);
        x.underline(0, 0);
        Checks.due("more(), one more and less", x.more(), 1);
    }

    /** "(JOINED ones as they are on it)": either on his LIST by either on the FRIEND's. */
    private static void moreOfJoinedAsTheyAreOnIt() {
        for (int his = 0; his <= 3; his++) {
            for (int friends = 0; friends <= 3; friends++) {
                EnginesOnList x = Checks.with("e10n00000000;e11c00000000;j1110;");
                Checks.land(x, (friends & 1) == 1 ? "f10;" : "x");
                Checks.land(x, friends >> 1 == 1 ? "f11;" : "x");
                x.underline(0, his & 1);
                x.underline(1, his >> 1);
                Checks.due("more(), " + his + " by " + friends, x.more(), his != 0 && friends == 0 ? 2 : 0);
            }
        }
    }

    /** "A ROW of PLACES (0 .. 9 ..)", "-4; -6 (9 ..)". */
    private static void rowFrom0To9() {
        EnginesOnList x = new EnginesOnList();
        Checks.refused(x, "row(-1)", () -> x.row(-1), -4);
        Checks.refused(x, "row(10)", () -> x.row(10), -6);
        Checks.due("count(5), empty", x.count(5), 0);
        for (int v = 0; v <= 9; v++) {
            Checks.due("row(" + v + ")", x.row(v), v + 1);
        }
        Checks.due("count(5)", x.count(5), 10);
    }

    /** "14 at most", "-6 (.. 14, too)". */
    private static void row14AtMost() {
        EnginesOnList x = Checks.with("e10k90000000;");
        for (int i = 1; i <= 14; i++) {
            Checks.due("row(4), time " + i, x.row(4), i);
        }
        Checks.refused(x, "row(0), the fifteenth", () -> x.row(0), -6);
        Checks.refused(x, "row(9), the fifteenth", () -> x.row(9), -6);
        Checks.refused(x, "row(10), the fifteenth", () -> x.row(10), -6);
        Checks.refused(x, "row(-1), the fifteenth", () -> x.row(-1), -4);
        Checks.due("count(5), full", x.count(5), 14);
        Checks.due("judge(0), the fourteen alone", x.judge(0), -9);
        Checks.due("row(4) behind it", x.row(4), 1);
    }

    /** "JUDGED: the first that is not so; -9": of none. */
    private static void judgedOfAnEmptyRow() {
        EnginesOnList x = Checks.with("e10k00000000;");
        Checks.due("judge(0) of an empty row", x.judge(0), -9);
        Checks.due("judge(0) of an empty row again", x.judge(0), -9);
        EnginesOnList none = new EnginesOnList();
        Checks.refused(none, "judge(0) without engines", () -> none.judge(0), -1);
    }

    /** Each of fourteen is the first that is not so, then none; those behind it do not matter. */
    private static void judgedOfAFullRow() {
        String places = "01239440123944";
        for (int wrong = 0; wrong <= 14; wrong++) {
            EnginesOnList x = Checks.with("e10c00123944;");
            for (int i = 0; i < 14; i++) {
                x.row(i == wrong ? 5 : places.charAt(i) - '0');
            }
            Checks.due("judge(0), " + wrong + " is not so", x.judge(0), wrong == 14 ? -9 : wrong);
            for (int i = 0; i < 14; i++) {
                x.row(i >= wrong ? 8 : places.charAt(i) - '0');
            }
            Checks.due("judge(0), " + wrong + " and all behind it", x.judge(0), wrong == 14 ? -9 : wrong);
        }
    }

    /** "told PLACES of an ENGINE from TODAY on": TODAY when it is JUDGED; at 999 beyond it. */
    private static void judgedFromToday() {
        EnginesOnList x = Checks.with("e10x20123494;");
        x.rest(6);
        int[] told = {4, 0, 1, 2, 3, 4, 9, 4, 9, 9, 9, 9, 9, 9};
        for (int place : told) {
            x.row(place);
        }
        Checks.due("judge(0) on day 6, into its scrapping", x.judge(0), -9);
        x.row(4);
        x.row(9);
        x.rest(7);
        Checks.due("judge(0), judged later than told", x.judge(0), -9);
        EnginesOnList late = Checks.with("e10s04444434;e11c00000000;");
        Checks.restTo(late, 999);
        int[] last = {3, 4, 0, 0, 0, 0, 0, 0, 0, 4, 4, 4, 4, 4};
        for (int place : last) {
            late.row(place);
        }
        Checks.due("judge(0) at 999", late.judge(0), -9);
    }

    /** "(9: in its shed)": each told v by each PLACE it can be at; 5 to 8 are nowhere. */
    private static void judgedOfEachPlace() {
        for (int is : new int[] {0, 1, 2, 3, 4, 9}) {
            EnginesOnList x = Checks.with("e10c0" + is + "999999;");
            for (int v = 0; v <= 9; v++) {
                x.row(v);
                Checks.due("judge(0), at " + is + ", told " + v, x.judge(0), v == is ? -9 : 0);
            }
        }
    }

    /** "(whichever it answers, the ROW has none then)". */
    private static void judgedThenTheRowHasNone() {
        EnginesOnList x = Checks.with("e10k00000000;");
        for (int v = 0; v <= 1; v++) {
            x.row(v);
            x.row(0);
            Checks.due("count(5)", x.count(5), 2);
            Checks.due("judge(0)", x.judge(0), v == 0 ? -9 : 0);
            Checks.due("count(5) behind it", x.count(5), 0);
            Checks.due("judge(0) again", x.judge(0), -9);
            Checks.due("row(0)", x.row(0), 1);
            Checks.due("judge(0) of the new one", x.judge(0), -9);
        }
    }

    /** "-1 (it stays)." */
    private static void judgedNobody() {
        EnginesOnList x = Checks.with("e10k00000000;");
        x.row(0);
        x.row(3);
        Checks.refused(x, "judge(1)", () -> x.judge(1), -1);
        Checks.refused(x, "judge(-1)", () -> x.judge(-1), -1);
        Checks.refused(x, "judge(7)", () -> x.judge(7), -1);
        Checks.due("count(5)", x.count(5), 2);
        Checks.due("judge(0)", x.judge(0), 1);
    }
}
