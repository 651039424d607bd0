/** Promises 31 (image), 32 (on), 33 (count). */
public final class ImageTest {
    public static void main(String[] args) {
        images();
        staysBehindOn();
        theBookIsAsThen();
        isNotTouchedByLaterCalls();
        emptyImage();
        counts();
        Checks.end("ImageTest");
    }

    private static void images() {
        EnginesOnList x = Checks.with("e10c00123401;e33k00000000;", "u10;f33;");
        x.rest(7);
        x.reading(0, 0, 33, 1);
        x.reading(3, 4, 77, 2);
        Checks.refused(x, "on()", x::on, -3);
        x.row(4);
        Checks.due("image()", x.image(), 7);
        Checks.land(x, "e38n90000000;j1033;u33;f10;");
        x.underline(0, 0);
        x.forget();
        x.reading(9, 2, 44, 3);
        x.reading(9, 3, 44, 3);
        x.rest(60);
        x.row(5);
        Checks.letters(x, "u1");
        Checks.refused(x, "rest(0)", () -> x.rest(0), -4);
        Checks.due("on()", x.on(), 7);
        int[] wanted = {2, 7, 1, 1, 2, 2, 2, 1};
        for (int what = 0; what < wanted.length; what++) {
            Checks.due("count(" + what + ") behind on()", x.count(what), wanted[what]);
        }
        Checks.due("count(13) behind on()", x.count(13), 1);
        Checks.due("count(14) behind on()", x.count(14), 1);
        Checks.due("engine(0, 3)", x.engine(0, 3), -9);
        Checks.due("engine(0, 4)", x.engine(0, 4), 1);
        Checks.due("engine(0, 5)", x.engine(0, 5), 0);
        Checks.due("engine(1, 4)", x.engine(1, 4), 0);
        Checks.due("engine(1, 5)", x.engine(1, 5), 1);
        Checks.due("engine(2, 0)", x.engine(2, 0), -1);
        Checks.due("clash(0)", x.clash(0), 0);
        Checks.due("madeUp()", x.madeUp(), 2);
        Checks.due("liars()", x.liars(), 4);
        Checks.due("many()", x.many(), 68 * 3 / 2 - 1);
        Checks.due("judge(0)", x.judge(0), 0);
        Checks.due("the letters go on", Checks.land(x, "0;"), 1);
    }

    private static void staysBehindOn() {
        EnginesOnList x = Checks.with("e10c00123401;");
        x.image();
        x.rest(1);
        x.underline(0, 1);
        Checks.due("on()", x.on(), 0);
        Checks.due("engine(0, 4)", x.engine(0, 4), 0);
        x.rest(2);
        x.underline(0, 1);
        Checks.due("on() again", x.on(), 0);
        Checks.due("engine(0, 4)", x.engine(0, 4), 0);
        x.rest(3);
        Checks.due("image() anew", x.image(), 3);
        x.rest(4);
        Checks.due("on() from the later one", x.on(), 3);
    }

    private static void theBookIsAsThen() {
        EnginesOnList x = Checks.with("e33c00123401;e44c01234012;e50k20000000;");
        x.reading(3, 3, 33, 1);
        x.reading(2, 3, 44, 2);
        x.image();
        x.forget();
        x.forget();
        x.reading(4, 1, 50, 3);
        x.reading(4, 0, 50, 3);
        Checks.due("clash(0)", x.clash(0), 1);
        Checks.due("madeUp()", x.madeUp(), 3);
        x.on();
        Checks.due("clash(0) as then", x.clash(0), 0);
        Checks.due("fitting(0, 0) as then", x.fitting(0, 0), 1);
        Checks.due("fitting(1, 1) as then", x.fitting(1, 1), 2);
        Checks.due("madeUp() as then", x.madeUp(), 0);
    }

    private static void isNotTouchedByLaterCalls() {
        EnginesOnList x = Checks.with("e10c00123401;e11n01123401;e12w52222222;j1110;");
        x.reading(5, 4, 10, 1);
        x.image();
        x.forget();
        x.reading(6, 3, 11, 2);
        x.stand(0);
        x.on();
        x.forget();
        x.reading(7, 2, 12, 3);
        x.stand(1);
        Checks.land(x, "e77s30123456;");
        Checks.land(x, "e77s30123401;j7712;");
        Checks.due("count(0)", x.count(0), 4);
        Checks.due("on()", x.on(), 0);
        Checks.due("count(0)", x.count(0), 3);
        Checks.due("count(2)", x.count(2), 0);
        Checks.due("fitting(0, 1)", x.fitting(0, 1), 0);
        Checks.due("liars()", x.liars(), 2);
        Checks.due("many()", x.many(), 1);
        Checks.due("engine(1, 1)", x.engine(1, 1), 6);
        Checks.due("engine(1, 3)", x.engine(1, 3), 0);
        Checks.due("engine(2, 2)", x.engine(2, 2), 5);
        Checks.due("engine(2, 3)", x.engine(2, 3), -9);
        Checks.due("turn(1, 0)", x.turn(1, 0), 1);
        Checks.due("count(3), the lesser counts", x.count(3), 2);
        Checks.land(x, "e78c00123401;e79n00000000;");
        Checks.due("count(3) with a named one more", x.count(3), 5);
        x.on();
        Checks.land(x, "e78n00123401;e79c00000000;");
        Checks.due("count(3) with another named one", x.count(3), 5);
        Checks.due("engine(3, 1)", x.engine(3, 1), 6);
        Checks.due("engine(4, 1)", x.engine(4, 1), 0);
    }

    private static void emptyImage() {
        EnginesOnList x = new EnginesOnList();
        Checks.due("image() of nothing", x.image(), 0);
        Checks.land(x, "e10n00123401;u10;f10;");
        x.rest(1);
        x.reading(0, 0, 10, 0);
        Checks.due("on()", x.on(), 0);
        for (int what = 0; what <= 7; what++) {
            Checks.due("count(" + what + ")", x.count(what), 0);
        }
        Checks.land(x, "e10c00123401;");
        Checks.due("count(3)", x.count(3), 1);
        Checks.due("engine(0, 1)", x.engine(0, 1), 0);
        Checks.due("engine(0, 6)", x.engine(0, 6), 0);
    }

    private static void counts() {
        EnginesOnList x = Checks.with("e10c00123401;e11n00123401;e12c00123401;j1011;", "u11;f10;f11;f12;");
        x.rest(9);
        x.reading(0, 0, 10, 0);
        x.row(0);
        x.row(9);
        Checks.letters(x, "e99");
        int[] wanted = {3, 9, 1, 1, 1, 2, 3, 3};
        for (int what = 0; what < wanted.length; what++) {
            Checks.due("count(" + what + ")", x.count(what), wanted[what]);
        }
        x.underline(1, 0);
        Checks.due("count(3)", x.count(3), 2);
        x.chase(3);
        x.clash(2);
        x.clash(3);
        x.on();
        x.on();
        x.on();
        for (int i = 0; i < 4; i++) {
            x.rest(-i);
        }
        for (int i = 0; i < 5; i++) {
            x.rest(61 + i);
        }
        int[] refusals = {1, 2, 3, 4, 0, 5};
        for (int i = 0; i < refusals.length; i++) {
            Checks.due("count(" + (11 + i) + ")", x.count(11 + i), refusals[i]);
        }
        int[] others = {Integer.MIN_VALUE, -1, 8, 9, 10, 17, 18, Integer.MAX_VALUE};
        for (int other : others) {
            Checks.due("count(" + other + ")", x.count(other), -9);
        }
        Checks.due("count(12), no refusal by a count", x.count(12), 2);
    }
}
