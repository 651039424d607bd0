/** Promises 29 (row), 30 (judge). */
public final class RowTest {
    public static void main(String[] args) {
        rows();
        judges();
        judgesFromToday();
        judgesWrong();
        Checks.end("RowTest");
    }

    private static void row(EnginesOnList x, int... values) {
        for (int value : values) {
            x.row(value);
        }
    }

    private static void rows() {
        EnginesOnList x = new EnginesOnList();
        for (int i = 0; i < 14; i++) {
            Checks.due("row(" + i % 10 + ")", x.row(i % 10), i + 1);
        }
        Checks.refused(x, "row(0) when full", () -> x.row(0), -6);
        Checks.refused(x, "row(-1) when full", () -> x.row(-1), -4);
        Checks.due("count(5)", x.count(5), 14);
        EnginesOnList y = new EnginesOnList();
        Checks.refused(y, "row(-1)", () -> y.row(-1), -4);
        Checks.refused(y, "row(10)", () -> y.row(10), -6);
        Checks.due("count(5)", y.count(5), 0);
    }

    private static void judges() {
        EnginesOnList x = Checks.with("e10c00123409;e11k30000000;");
        Checks.due("judge(0) of nothing", x.judge(0), -9);
        row(x, 0, 1, 2, 3, 4, 0, 9, 0, 1, 2, 3, 4, 0, 9);
        Checks.due("count(5)", x.count(5), 14);
        Checks.due("judge(0), all so", x.judge(0), -9);
        Checks.due("count(5)", x.count(5), 0);
        row(x, 0, 1, 2, 3, 4, 0, 9, 0, 1, 2, 3, 4, 0, 0);
        Checks.due("judge(0), the last not so", x.judge(0), 13);
        Checks.due("count(5)", x.count(5), 0);
        Checks.due("judge(0) behind it", x.judge(0), -9);
        row(x, 3, 3, 4, 3, 4);
        Checks.due("judge(1), the first of two not so", x.judge(1), 2);
        row(x, 7);
        Checks.due("judge(1), no place", x.judge(1), 0);
        row(x, 3, 9);
        Checks.due("judge(1), not in its shed", x.judge(1), 1);
    }

    private static void judgesFromToday() {
        EnginesOnList x = Checks.with("e10c00123409;e11x10000000;");
        x.rest(3);
        row(x, 3, 4, 0, 9, 0);
        Checks.due("judge(0) on day 3", x.judge(0), -9);
        row(x, 0, 0, 0, 0, 9, 0);
        Checks.due("judge(1) on day 3", x.judge(1), 5);
        row(x, 0, 1);
        x.rest(4);
        Checks.due("judge(0), told before", x.judge(0), -9);
        Checks.restTo(x, 999);
        row(x, 0, 9, 0, 1, 2, 3, 4, 0, 9, 0, 1, 2, 3, 4);
        Checks.due("judge(0) on day 999", x.judge(0), -9);
    }

    private static void judgesWrong() {
        EnginesOnList x = Checks.with("e10c00123409;");
        row(x, 5, 0);
        Checks.refused(x, "judge(1)", () -> x.judge(1), -1);
        Checks.refused(x, "judge(-1)", () -> x.judge(-1), -1);
        Checks.due("count(5)", x.count(5), 2);
        Checks.due("judge(0)", x.judge(0), 0);
    }
}
