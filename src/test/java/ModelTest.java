import java.util.Random;

/** Runs of calls by seeds, each answer compared with the model's. */
public final class ModelTest {
    private static final int RUNS = 1500;
    private static final int CALLS = 512;
    private static final int FUNCTIONS = 32;
    private static final int[] EXTREMES = {Integer.MIN_VALUE, -1, 0, 1, 5, 9, 60, 99, 255, 1100, Integer.MAX_VALUE};
    private static final String NUMBERS = "10131830333880838899";

    private final Random random;
    private final EnginesOnList x = new EnginesOnList();
    private final Model model = new Model();
    private final int run;
    private String text = "";
    private int calls;

    private ModelTest(int run) {
        this.run = run;
        this.random = new Random(run);
    }

    public static void main(String[] args) {
        for (int run = 1; run <= RUNS; run++) {
            new ModelTest(run).play();
        }
        Checks.end("ModelTest");
    }

    private void play() {
        boolean wild = run % 5 == 0;
        while (calls < CALLS) {
            calls++;
            if (!text.isEmpty()) {
                compare(0, text.charAt(0), 0, 0, 0);
                text = text.substring(1);
                if (text.isEmpty()) {
                    compare(1, 0, 0, 0, 0);
                }
            } else if (below(9) == 0) {
                text = landText();
            } else {
                anyCall(2 + below(FUNCTIONS - 2), wild);
            }
        }
    }

    private int below(int bound) {
        return random.nextInt(bound);
    }

    private String number() {
        int i = below(NUMBERS.length() / 2) * 2;
        return below(15) == 0 ? "0" + below(10) : NUMBERS.substring(i, i + 2);
    }

    private String statement() {
        switch (below(6)) {
            case 0:
                return "u" + number() + ";";
            case 1:
                return "f" + number() + ";";
            case 2:
                return "j" + number() + number() + ";";
            default:
                StringBuilder e = new StringBuilder("e" + number() + "cawkxsn".charAt(below(7)) + below(10));
                int wrong = below(60);
                String places = below(2) == 0 ? "012349" : "0199";
                for (int day = 0; day < 7; day++) {
                    e.append(day == wrong ? (char) ('5' + below(4)) : places.charAt(below(places.length())));
                }
                return e + ";";
        }
    }

    private String landText() {
        StringBuilder land = new StringBuilder();
        for (int i = 1 + below(5); i > 0; i--) {
            land.append(statement());
        }
        if (below(8) == 0) {
            land.setCharAt(below(land.length()), "eujf;0123456789cawkxsnx".charAt(below(23)));
        }
        if (below(12) == 0) {
            land.deleteCharAt(below(land.length()));
        }
        if (below(12) == 0) {
            land.append("e;u10;x".charAt(below(7)));
        }
        return land.toString();
    }

    /** An argument below the bound, now and then one just outside, in wild runs anything. */
    private int argument(int least, int greatest, boolean wild) {
        if (wild && below(6) == 0) {
            return EXTREMES[below(EXTREMES.length)];
        }
        int luck = below(40);
        return luck == 0 ? least - 1 : luck == 1 ? greatest + 1 : luck == 2 ? least : luck == 3 ? greatest
                : least + below(greatest - least + 1);
    }

    private void anyCall(int function, boolean wild) {
        int engine = argument(0, Math.max(0, model.count(0) - 1), wild);
        int place = argument(0, 4, wild);
        int what = argument(0, 1, wild);
        switch (function) {
            case 2:
                compare(function, engine, argument(0, 6, wild), 0, 0);
                break;
            case 3:
                compare(function, engine, argument(0, 6, wild), 0, 0);
                break;
            case 4:
                compare(function, engine, argument(0, 1100, wild), 0, 0);
                break;
            case 5:
                compare(function, place, argument(0, 1100, wild), 0, 0);
                break;
            case 7:
                compare(function, argument(1, 60, wild), 0, 0, 0);
                break;
            case 8:
                compare(function, engine, below(3) == 0 ? what : 0, 0, 0);
                break;
            case 9:
                compare(function, place, argument(1, 14, wild), 0, 0);
                break;
            case 10:
                compare(function, argument(1, 14, wild), 0, 0, 0);
                break;
            case 11:
                compare(function, argument(1, 5, wild), argument(0, 20, wild), argument(-1, 4, wild), 0);
                break;
            case 16:
                compare(function, model.count(1) + argument(0, 2, wild), place, readNumber(wild), argument(0, 3, wild));
                break;
            case 18:
                compare(function, argument(0, Math.max(0, model.count(4) - 1), wild), what, 0, 0);
                break;
            case 23:
                compare(function, argument(1, 60, wild) / (1 + below(9)), what, 0, 0);
                break;
            default:
                otherCall(function, engine, place, what, wild);
        }
    }

    private int readNumber(boolean wild) {
        return below(3) == 0 ? argument(10, 99, wild) : Integer.parseInt(number());
    }

    private void otherCall(int function, int engine, int place, int what, boolean wild) {
        switch (function) {
            case 6:
                compare(function, place, 0, 0, 0);
                break;
            case 12:
                compare(function, engine, place, 0, 0);
                break;
            case 13:
                compare(function, engine, 0, 0, 0);
                break;
            case 21:
                compare(function, what, 0, 0, 0);
                break;
            case 26:
                compare(function, argument(1, 30, wild), random.nextInt(), 0, 0);
                break;
            case 27:
                compare(function, argument(0, 9, wild), 0, 0, 0);
                break;
            case 28:
                compare(function, engine, 0, 0, 0);
                break;
            case 31:
                compare(function, argument(0, 17, wild), 0, 0, 0);
                break;
            default:
                compare(function, 0, 0, 0, 0);
        }
    }

    private void compare(int function, int a, int b, int c, int d) {
        int got;
        int want;
        try {
            got = ofClass(function, a, b, c, d);
        } catch (RuntimeException thrown) {
            got = -12345678;
        }
        want = ofModel(function, a, b, c, d);
        if (got != want) {
            Checks.due("run " + run + " call " + calls + " function " + function + "(" + a + ", " + b + ", " + c + ", " + d + ")",
                    got, want);
        } else {
            Checks.due("", got, want);
        }
    }

    private int ofClass(int function, int a, int b, int c, int d) {
        switch (function) {
            case 0: return x.letter(a);
            case 1: return x.land();
            case 2: return x.engine(a, b);
            case 3: return x.turn(a, b);
            case 4: return x.at(a, b);
            case 5: return x.pass(a, b);
            case 6: return x.stand(a);
            case 7: return x.rest(a);
            case 8: return x.underline(a, b);
            case 9: return x.fresh(a, b);
            case 10: return x.where(a);
            case 11: return x.plan(a, b, c);
            case 12: return x.await(a, b);
            case 13: return x.chase(a);
            case 14: return x.ever();
            case 15: return x.all();
            case 16: return x.reading(a, b, c, d);
            case 17: return x.forget();
            case 18: return x.fitting(a, b);
            case 19: return x.madeUp();
            case 20: return x.liars();
            case 21: return x.clash(a);
            case 22: return x.sure();
            case 23: return x.pairs(a, b);
            case 24: return x.many();
            case 25: return x.more();
            case 26: return x.seeds(a, b);
            case 27: return x.row(a);
            case 28: return x.judge(a);
            case 29: return x.image();
            case 30: return x.on();
            default: return x.count(a);
        }
    }

    private int ofModel(int function, int a, int b, int c, int d) {
        switch (function) {
            case 0: return model.letter(a);
            case 1: return model.land();
            case 2: return model.engine(a, b);
            case 3: return model.turn(a, b);
            case 4: return model.at(a, b);
            case 5: return model.pass(a, b);
            case 6: return model.stand(a);
            case 7: return model.rest(a);
            case 8: return model.underline(a, b);
            case 9: return model.fresh(a, b);
            case 10: return model.where(a);
            case 11: return model.plan(a, b, c);
            case 12: return model.await(a, b);
            case 13: return model.chase(a);
            case 14: return model.ever();
            case 15: return model.all();
            case 16: return model.reading(a, b, c, d);
            case 17: return model.forget();
            case 18: return model.fitting(a, b);
            case 19: return model.madeUp();
            case 20: return model.liars();
            case 21: return model.clash(a);
            case 22: return model.sure();
            case 23: return model.pairs(a, b);
            case 24: return model.many();
            case 25: return model.more();
            case 26: return model.seeds(a, b);
            case 27: return model.row(a);
            case 28: return model.judge(a);
            case 29: return model.image();
            case 30: return model.on();
            default: return model.count(a);
        }
    }
}
