/** Promises 18 (reading), 19 (forget), 20 (fitting), 21 (madeUp), 22 (liars), 23 (clash), 24 (sure), 26 (many). */
public final class BookTest {
    public static void main(String[] args) {
        readings();
        readingsWrong();
        forgets();
        fits();
        fitsNoOther();
        fitsByDayAndPlace();
        fitsWrong();
        madeUps();
        liarsAre();
        clashes();
        surely();
        manyByNumbers();
        Checks.end("BookTest");
    }

    private static void readings() {
        EnginesOnList x = new EnginesOnList();
        Checks.due("reading(0, 0, 10, 0)", x.reading(0, 0, 10, 0), 1);
        Checks.due("reading(1100, 4, 99, 3)", x.reading(1100, 4, 99, 3), 2);
        for (int i = 3; i <= 12; i++) {
            Checks.due("reading " + i, x.reading(i, i % 5, 10 * (i % 9 + 1), i % 4), i);
        }
        Checks.refused(x, "reading 13", () -> x.reading(0, 0, 10, 0), -6);
        Checks.refused(x, "reading 13 below", () -> x.reading(-1, 0, 10, 0), -4);
        Checks.refused(x, "reading 13 by nobody", () -> x.reading(0, 0, 10, 4), -1);
        Checks.due("count(4)", x.count(4), 12);
        Checks.due("forget()", x.forget(), 11);
        Checks.due("reading 12 again", x.reading(5, 0, 10, 0), 12);
    }

    private static void readingsWrong() {
        EnginesOnList x = new EnginesOnList();
        Checks.refused(x, "place 5", () -> x.reading(-1, 5, 9, 0), -1);
        Checks.refused(x, "place -1", () -> x.reading(1101, -1, 100, 0), -1);
        Checks.refused(x, "boy 4", () -> x.reading(-1, 0, 9, 4), -1);
        Checks.refused(x, "boy -1", () -> x.reading(1101, 0, 100, -1), -1);
        Checks.refused(x, "day -1", () -> x.reading(-1, 0, 100, 0), -4);
        Checks.refused(x, "number 9", () -> x.reading(1101, 0, 9, 0), -4);
        Checks.refused(x, "number -10", () -> x.reading(0, 0, -10, 0), -4);
        Checks.refused(x, "day 1101", () -> x.reading(1101, 0, 10, 0), -6);
        Checks.refused(x, "number 100", () -> x.reading(0, 0, 100, 0), -6);
        Checks.due("count(4)", x.count(4), 0);
    }

    private static void forgets() {
        EnginesOnList x = Checks.with("e10k00000000;");
        Checks.refused(x, "forget()", x::forget, -3);
        x.reading(0, 0, 10, 0);
        x.reading(0, 0, 11, 1);
        Checks.due("forget()", x.forget(), 1);
        Checks.due("fitting(0, 0)", x.fitting(0, 0), 1);
        Checks.refused(x, "fitting(1, 0)", () -> x.fitting(1, 0), -1);
        Checks.due("madeUp()", x.madeUp(), 0);
        Checks.due("forget()", x.forget(), 0);
        Checks.refused(x, "forget()", x::forget, -3);
    }

    /** All of them are always at place 0 but the last one. */
    private static void fits() {
        EnginesOnList x = Checks.with("e33k00000000;e38k00000000;e83k00000000;e88k00000000;",
                "e30k00000000;e13k00000000;e18k10000000;");
        int[] numbers = {33, 38, 83, 88, 30, 80, 13, 18, 31, 39, 93};
        int[] fitting = {15, 15, 15, 15, 16, 16, 32, 32, 0, 0, 0};
        int[] right = {1, 2, 4, 8, 16, 0, 32, 0, 0, 0, 0};
        for (int i = 0; i < numbers.length; i++) {
            x.reading(3, 0, numbers[i], 0);
            Checks.due("fitting " + numbers[i], x.fitting(i, 0), fitting[i]);
            Checks.due("right " + numbers[i], x.fitting(i, 1), right[i]);
        }
        x.reading(3, 1, 13, 0);
        Checks.due("fitting 13 at 1", x.fitting(11, 0), 64);
        Checks.due("right 13 at 1", x.fitting(11, 1), 0);
        Checks.due("count(2)", x.count(2), 0);
    }

    /** Numbers that are near one another, or alike backwards, are still unlike. */
    private static void fitsNoOther() {
        EnginesOnList x = Checks.with("e19k00000000;e21k00000000;e30k00000000;e91k00000000;");
        int[] numbers = {20, 18, 12, 29, 31, 13, 81, 90};
        for (int i = 0; i < numbers.length; i++) {
            x.reading(3, 0, numbers[i], 0);
            Checks.due("fitting " + numbers[i], x.fitting(i, 0), 0);
        }
    }

    private static void fitsByDayAndPlace() {
        EnginesOnList x = Checks.with("e23c00123401;e28s09999999;");
        x.reading(0, 0, 23, 0);
        x.reading(1, 0, 23, 0);
        x.reading(8, 1, 28, 0);
        x.reading(1100, 1, 23, 0);
        Checks.due("fitting(0, 0)", x.fitting(0, 0), 1);
        Checks.due("fitting(1, 0)", x.fitting(1, 0), 0);
        Checks.due("fitting(1, 1)", x.fitting(1, 1), 0);
        Checks.due("fitting(2, 0)", x.fitting(2, 0), 3);
        Checks.due("fitting(2, 1)", x.fitting(2, 1), 2);
        Checks.due("fitting(3, 0)", x.fitting(3, 0), 3);
        Checks.land(x, "u23;");
        x.rest(5);
        Checks.due("fitting(0, 0) later", x.fitting(0, 0), 1);
        // A third one comes: from now on the second is swapped with it.
        Checks.land(x, "e50c02222222;");
        Checks.due("fitting(2, 0)", x.fitting(2, 0), 1);
        Checks.due("fitting(2, 1)", x.fitting(2, 1), 0);
    }

    private static void fitsWrong() {
        EnginesOnList x = Checks.with("e23c00123401;");
        Checks.refused(x, "fitting(0, 0)", () -> x.fitting(0, 0), -1);
        x.reading(0, 0, 23, 0);
        Checks.refused(x, "fitting(-1, 2)", () -> x.fitting(-1, 2), -1);
        Checks.refused(x, "fitting(1, -1)", () -> x.fitting(1, -1), -1);
        Checks.refused(x, "fitting(0, 2)", () -> x.fitting(0, 2), -2);
        Checks.refused(x, "fitting(0, -1)", () -> x.fitting(0, -1), -2);
    }

    private static void madeUps() {
        EnginesOnList x = Checks.with("e33k00000000;e50n09999999;");
        Checks.due("madeUp() of none", x.madeUp(), 0);
        x.reading(0, 0, 88, 0);
        x.reading(0, 0, 34, 0);
        x.reading(0, 1, 33, 0);
        x.reading(0, 0, 33, 0);
        x.reading(0, 0, 50, 0);
        Checks.due("madeUp()", x.madeUp(), 2 + 4 + 16);
        for (int i = 5; i < 12; i++) {
            x.reading(i, 4, 33, 0);
        }
        Checks.due("madeUp() of twelve", x.madeUp(), 2 + 4 + 4095 - 15);
        EnginesOnList none = new EnginesOnList();
        none.reading(0, 0, 10, 2);
        Checks.due("madeUp() without engines", none.madeUp(), 1);
        Checks.due("liars() without engines", none.liars(), 4);
    }

    private static void liarsAre() {
        EnginesOnList x = Checks.with("e33k00000000;");
        Checks.due("liars() of no readings", x.liars(), 0);
        x.reading(0, 0, 33, 0);
        x.reading(0, 0, 38, 0);
        x.reading(0, 0, 83, 0);
        Checks.due("liars(), none", x.liars(), 0);
        x.reading(0, 0, 44, 3);
        Checks.due("liars(), one", x.liars(), 8);
        x.reading(0, 0, 44, 1);
        Checks.due("liars(), two", x.liars(), 10);
        x.reading(0, 0, 44, 1);
        Checks.due("liars(), the one who made up most", x.liars(), 2);
        x.reading(0, 0, 44, 2);
        x.reading(0, 0, 44, 2);
        Checks.due("liars(), two by two", x.liars(), 6);
        x.reading(0, 0, 44, 0);
        x.reading(0, 0, 44, 0);
        x.reading(0, 0, 44, 3);
        Checks.due("liars(), all", x.liars(), 15);
        x.reading(0, 0, 44, 0);
        Checks.due("liars(), the first", x.liars(), 1);
        EnginesOnList y = new EnginesOnList();
        y.reading(0, 0, 44, 0);
        y.reading(0, 0, 44, 2);
        y.reading(0, 0, 44, 2);
        Checks.due("liars(), a later boy made up more", y.liars(), 4);
    }

    private static void clashes() {
        EnginesOnList x = Checks.with("e33k00000000;");
        x.reading(5, 0, 33, 0);
        x.reading(5, 0, 33, 1);
        x.reading(5, 1, 38, 1);
        x.reading(6, 1, 33, 1);
        Checks.due("clash(0), none", x.clash(0), 0);
        Checks.due("clash(1), none", x.clash(1), -9);
        x.reading(6, 2, 33, 1);
        Checks.due("clash(0), one", x.clash(0), 1);
        Checks.due("clash(1), one", x.clash(1), 12 * 3 + 4);
        x.reading(5, 4, 33, 0);
        Checks.due("clash(0)", x.clash(0), 3);
        Checks.due("clash(1)", x.clash(1), 5);
        x.reading(6, 3, 33, 0);
        Checks.due("clash(0)", x.clash(0), 5);
        x.reading(5, 2, 38, 0);
        Checks.due("clash(0)", x.clash(0), 6);
        Checks.due("clash(1)", x.clash(1), 5);
        Checks.refused(x, "clash(2)", () -> x.clash(2), -2);
        Checks.refused(x, "clash(-1)", () -> x.clash(-1), -2);
        EnginesOnList y = new EnginesOnList();
        for (int i = 0; i < 10; i++) {
            y.reading(i, 0, 10, 0);
        }
        y.reading(100, 3, 10, 0);
        y.reading(100, 4, 10, 0);
        Checks.due("clash(1) of the last two", y.clash(1), 12 * 10 + 11);
    }

    private static void surely() {
        EnginesOnList x = Checks.with("e33k00000000;e38k10000000;e83c00123401;");
        Checks.due("sure() of none", x.sure(), 0);
        x.reading(0, 0, 33, 0);
        Checks.due("sure(), two fit", x.sure(), 0);
        x.reading(1, 0, 88, 0);
        Checks.due("sure(), one fits alone", x.sure(), 1);
        x.reading(1, 1, 33, 0);
        Checks.due("sure(), two fit at 1", x.sure(), 1);
        x.reading(2, 1, 33, 0);
        Checks.due("sure(), by a misread number", x.sure(), 3);
        x.reading(2, 4, 33, 0);
        Checks.due("sure(), made up", x.sure(), 3);
        x.reading(2, 2, 83, 0);
        Checks.due("sure(), all", x.sure(), 7);
        EnginesOnList one = Checks.with("e33k00000000;");
        one.reading(0, 0, 38, 0);
        Checks.due("sure(), by the only reading", one.sure(), 1);
    }

    private static void manyByNumbers() {
        EnginesOnList x = new EnginesOnList();
        Checks.due("many() of none", x.many(), 0);
        x.reading(0, 0, 10, 0);
        Checks.due("many() of 10", x.many(), 1);
        x.reading(0, 0, 99, 0);
        Checks.due("many() of 10, 99", x.many(), 90 * 3 / 2 - 1);
        x.reading(9, 1, 99, 1);
        Checks.due("many() of 10, 99, 99", x.many(), 134);
        x.reading(0, 0, 33, 0);
        Checks.due("many() of 10, 33, 99", x.many(), 119);
        x.reading(0, 0, 38, 0);
        Checks.due("many() of 10, 33, 38, 99: just as read", x.many(), 90 * 5 / 4 - 1);
        EnginesOnList y = new EnginesOnList();
        y.reading(0, 0, 99, 0);
        Checks.due("many() of 99", y.many(), 179);
        y.forget();
        y.reading(0, 0, 20, 0);
        y.reading(0, 0, 12, 0);
        Checks.due("many() of 20, 12, cut", y.many(), 15);
        y.reading(0, 0, 15, 0);
        Checks.due("many() of 20, 12, 15, cut", y.many(), 13);
    }
}
