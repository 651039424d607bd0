/** Engines told in letters, and a boy who underlines those he reads; ../shared/DOC.md promises it. */
public final class EnginesOnList {
    private static final int NOBODY = -1;
    private static final int OTHER = -2;
    private static final int STATE = -3;
    private static final int BELOW = -4;
    private static final int ROOM = -6;
    private static final int NONE = -9;

    private static final int LETTER_FAULT = -1000;
    private static final int STATEMENT_FAULT = -2000;

    private static final int MOST_LETTERS = 64;
    private static final int GREATEST_LETTER = 255;
    private static final int MOST_ENGINES = 7;
    private static final int LEAST_NUMBER = 10;
    private static final int GREATEST_NUMBER = 99;
    private static final int PLACES = 5;
    private static final int SHED = 9;
    private static final int ANYWHERE = -1;
    private static final int WEEK = 7;
    private static final int LAST_TODAY = 999;
    private static final int LAST_DAY = 1100;
    private static final int FAR = 60;
    private static final int MOST_FRESH_DAYS = 14;
    private static final int MOST_PLAN_DAYS = 5;
    private static final int MOST_COIN = 20;
    private static final int MOST_SEED_DAYS = 30;
    private static final int MOST_READINGS = 12;
    private static final int BOYS = 4;
    private static final int MOST_IN_ROW = 14;
    private static final int KINDS_OF_REFUSALS = 6;
    private static final int WITHOUT_SIGN = 0x7fffffff;

    private static final int AWAY = 1;
    private static final int WORKS = 2;
    private static final int KEPT = 3;
    private static final int SCRAPPED = 4;
    private static final int SWAPPED = 5;
    private static final int NAMED = 6;
    private static final String KIND_LETTERS = "cawkxsn";

    private final Letters letters;
    private final World now;
    private final World then;
    private boolean imaged;
    private final Fleet trial;
    private final Planner planner;
    private final int[] told;
    private int toldSize;
    private final int[] refused;

    public EnginesOnList() {
        letters = new Letters();
        now = new World();
        then = new World();
        trial = new Fleet();
        planner = new Planner();
        told = new int[MOST_IN_ROW];
        refused = new int[KINDS_OF_REFUSALS];
    }

    public int letter(int c) {
        if (c < 0) {
            return refuse(BELOW);
        }
        if (c > GREATEST_LETTER || !letters.add(c)) {
            return refuse(ROOM);
        }
        return letters.size;
    }

    public int land() {
        int answer = landTold();
        letters.size = 0;
        return answer;
    }

    public int engine(int engine, int what) {
        Fleet fleet = now.fleet;
        if (!fleet.knows(engine)) {
            return refuse(NOBODY);
        }
        switch (what) {
            case 0:
                return fleet.number(engine);
            case 1:
                return fleet.kinds[engine];
            case 2:
                return fleet.figures[engine];
            case 3:
                return fleet.joined[engine];
            case 4:
                return fleet.underlined >> engine & 1;
            case 5:
                return fleet.friends >> engine & 1;
            case 6:
                return fleet.isOn(fleet.underlined, engine) ? 1 : 0;
            default:
                return refuse(OTHER);
        }
    }

    public int turn(int engine, int day) {
        if (!now.fleet.knows(engine)) {
            return refuse(NOBODY);
        }
        if (day < 0) {
            return refuse(BELOW);
        }
        if (day >= WEEK) {
            return refuse(ROOM);
        }
        return now.fleet.turnOf(engine, day);
    }

    public int at(int engine, int day) {
        if (!now.fleet.knows(engine)) {
            return refuse(NOBODY);
        }
        if (day < 0) {
            return refuse(BELOW);
        }
        if (day > LAST_DAY) {
            return refuse(ROOM);
        }
        return now.fleet.placeOn(engine, day);
    }

    public int pass(int place, int day) {
        if (!isPlace(place)) {
            return refuse(NOBODY);
        }
        if (day < 0) {
            return refuse(BELOW);
        }
        if (day > LAST_DAY) {
            return refuse(ROOM);
        }
        return now.fleet.passing(place, day);
    }

    public int stand(int place) {
        if (!isPlace(place)) {
            return refuse(NOBODY);
        }
        if (now.today >= LAST_TODAY) {
            return refuse(ROOM);
        }
        int passing = now.fleet.passing(place, now.today);
        int worth = now.fleet.worth(now.fleet.newOf(passing));
        now.fleet.underlined |= passing;
        now.today++;
        return worth;
    }

    public int rest(int n) {
        if (n < 1) {
            return refuse(BELOW);
        }
        if (n > FAR || now.today + n > LAST_TODAY) {
            return refuse(ROOM);
        }
        now.today += n;
        return now.today;
    }

    public int underline(int engine, int is) {
        Fleet fleet = now.fleet;
        if (!fleet.knows(engine)) {
            return refuse(NOBODY);
        }
        if (is < 0 || is > 1) {
            return refuse(OTHER);
        }
        int was = fleet.underlined >> engine & 1;
        fleet.underlined = fleet.underlined & ~(1 << engine) | is << engine;
        return was;
    }

    public int fresh(int place, int n) {
        if (!isPlace(place)) {
            return refuse(NOBODY);
        }
        if (n < 1) {
            return refuse(BELOW);
        }
        if (n > MOST_FRESH_DAYS) {
            return refuse(ROOM);
        }
        return now.freshWorth(place, n);
    }

    public int where(int n) {
        if (n < 1) {
            return refuse(BELOW);
        }
        if (n > MOST_FRESH_DAYS) {
            return refuse(ROOM);
        }
        int best = 0;
        int most = -1;
        for (int place = 0; place < PLACES; place++) {
            int worth = now.freshWorth(place, n);
            if (worth > most) {
                most = worth;
                best = place;
            }
        }
        return best;
    }

    public int plan(int n, int coin, int i) {
        if (n < 1 || coin < 0 || i < -1) {
            return refuse(BELOW);
        }
        if (n > MOST_PLAN_DAYS || coin > MOST_COIN) {
            return refuse(ROOM);
        }
        if (i >= n) {
            return NONE;
        }
        planner.search(now, n, coin);
        return i < 0 ? planner.bestWorth : planner.best[i];
    }

    public int await(int engine, int place) {
        if (!now.fleet.knows(engine) || !isPlace(place)) {
            return refuse(NOBODY);
        }
        return now.daysUntil(engine, place);
    }

    public int chase(int engine) {
        if (!now.fleet.knows(engine)) {
            return refuse(NOBODY);
        }
        return now.daysUntil(engine, ANYWHERE);
    }

    public int ever() {
        return now.everWorth();
    }

    public int all() {
        int wanted = now.fleet.worthOfAllNew();
        if (wanted == 0) {
            return 0;
        }
        for (int n = 1; n <= MOST_PLAN_DAYS; n++) {
            planner.search(now, n, MOST_COIN);
            if (planner.bestWorth == wanted) {
                return n;
            }
        }
        return NONE;
    }

    public int reading(int day, int place, int number, int boy) {
        if (!isPlace(place) || boy < 0 || boy >= BOYS) {
            return refuse(NOBODY);
        }
        if (day < 0 || number < LEAST_NUMBER) {
            return refuse(BELOW);
        }
        if (day > LAST_DAY || number > GREATEST_NUMBER || !now.book.add(day, place, number, boy)) {
            return refuse(ROOM);
        }
        return now.book.size;
    }

    public int forget() {
        if (now.book.size == 0) {
            return refuse(STATE);
        }
        now.book.size--;
        return now.book.size;
    }

    public int fitting(int reading, int right) {
        if (reading < 0 || reading >= now.book.size) {
            return refuse(NOBODY);
        }
        if (right < 0 || right > 1) {
            return refuse(OTHER);
        }
        return now.fittingOnes(reading, right == 1);
    }

    public int madeUp() {
        return now.madeUpOnes();
    }

    public int liars() {
        int lies = now.madeUpOnes();
        int most = 1;
        int bits = 0;
        for (int boy = 0; boy < BOYS; boy++) {
            int his = Integer.bitCount(lies & now.book.readBy(boy));
            if (his > most) {
                most = his;
                bits = 0;
            }
            if (his == most) {
                bits |= 1 << boy;
            }
        }
        return bits;
    }

    public int clash(int what) {
        if (what < 0 || what > 1) {
            return refuse(OTHER);
        }
        int found = 0;
        for (int i = 0; i < now.book.size; i++) {
            for (int j = i + 1; j < now.book.size; j++) {
                if (now.book.cannotBothBe(i, j)) {
                    if (what == 1) {
                        return MOST_READINGS * i + j;
                    }
                    found++;
                }
            }
        }
        return what == 1 ? NONE : found;
    }

    public int sure() {
        int bits = 0;
        for (int i = 0; i < now.book.size; i++) {
            int fit = now.fittingOnes(i, false);
            if (Integer.bitCount(fit) == 1) {
                bits |= fit;
            }
        }
        return bits;
    }

    public int pairs(int n, int what) {
        if (n < 1) {
            return refuse(BELOW);
        }
        if (n > FAR) {
            return refuse(ROOM);
        }
        if (what < 0 || what > 1) {
            return refuse(OTHER);
        }
        int found = 0;
        for (int one = 0; one < now.fleet.size; one++) {
            for (int other = one + 1; other < now.fleet.size; other++) {
                if (now.goTogether(one, other, n)) {
                    if (what == 1) {
                        return 10 * one + other;
                    }
                    found++;
                }
            }
        }
        return what == 1 ? NONE : found;
    }

    public int many() {
        int unlike = now.book.unlikeNumbers();
        if (unlike == 0) {
            return 0;
        }
        return (now.book.greatestNumber() - 9) * (unlike + 1) / unlike - 1;
    }

    public int more() {
        return now.fleet.worthBeyondFriend();
    }

    public int seeds(int n, int z) {
        if (n < 1) {
            return refuse(BELOW);
        }
        if (n > MOST_SEED_DAYS) {
            return refuse(ROOM);
        }
        return now.drawnWorth(n, z);
    }

    public int row(int v) {
        if (v < 0) {
            return refuse(BELOW);
        }
        if (v > SHED || toldSize >= MOST_IN_ROW) {
            return refuse(ROOM);
        }
        told[toldSize] = v;
        toldSize++;
        return toldSize;
    }

    public int judge(int engine) {
        if (!now.fleet.knows(engine)) {
            return refuse(NOBODY);
        }
        int size = toldSize;
        toldSize = 0;
        for (int i = 0; i < size && i < MOST_IN_ROW; i++) {
            if (told[i] != now.fleet.placeOn(engine, now.today + i)) {
                return i;
            }
        }
        return NONE;
    }

    public int image() {
        then.copyFrom(now);
        imaged = true;
        return now.today;
    }

    public int on() {
        if (!imaged) {
            return refuse(STATE);
        }
        now.copyFrom(then);
        return now.today;
    }

    public int count(int what) {
        switch (what) {
            case 0:
                return now.fleet.size;
            case 1:
                return now.today;
            case 2:
                return Integer.bitCount(now.fleet.underlined);
            case 3:
                return now.fleet.worthOfAllNew();
            case 4:
                return now.book.size;
            case 5:
                return toldSize;
            case 6:
                return letters.size;
            case 7:
                return Integer.bitCount(now.fleet.friends);
            default:
                return what > 10 && what <= 10 + KINDS_OF_REFUSALS ? refused[what - 11] : NONE;
        }
    }

    private int refuse(int why) {
        if (why < 0 && why >= -KINDS_OF_REFUSALS) {
            refused[-why - 1]++;
        }
        return why;
    }

    private static boolean isPlace(int place) {
        return place >= 0 && place < PLACES;
    }

    /** Works on the trial fleet, so that a fault late in the text leaves nothing of what is ahead of it. */
    private int landTold() {
        int stuck = letters.stuckPlace();
        if (stuck >= 0) {
            return LETTER_FAULT - stuck;
        }
        trial.copyFrom(now.fleet);
        int statements = 0;
        int start = 0;
        for (int i = 0; i < letters.size; i++) {
            if (letters.sign(i) == ';') {
                if (!trial.takes(letters, start)) {
                    return STATEMENT_FAULT - start;
                }
                statements++;
                start = i + 1;
            }
        }
        now.fleet.copyFrom(trial);
        return statements;
    }

    private static final class Letters {
        private final int[] signs = new int[MOST_LETTERS];
        private int size;

        private boolean add(int sign) {
            if (size >= MOST_LETTERS) {
                return false;
            }
            signs[size] = sign;
            size++;
            return true;
        }

        private int sign(int i) {
            return i >= 0 && i < size && i < MOST_LETTERS ? signs[i] : -1;
        }

        private int digit(int i) {
            return sign(i) - '0';
        }

        private int number(int i) {
            return 10 * digit(i) + digit(i + 1);
        }

        private int kind(int i) {
            int sign = sign(i);
            return sign < 0 ? -1 : KIND_LETTERS.indexOf((char) sign);
        }

        /** The place of the first letter with which no land can go on; -1 if the text is one. */
        private int stuckPlace() {
            int i = 0;
            do {
                String shape = shapeFrom(sign(i));
                if (shape.isEmpty()) {
                    return i;
                }
                for (int k = 1; k < shape.length(); k++) {
                    i++;
                    if (!suits(i, shape.charAt(k))) {
                        return i;
                    }
                }
                i++;
            } while (i < size);
            return -1;
        }

        /** How a statement with such a first letter must look: 0 stands for a digit, c for a letter of a kind. */
        private static String shapeFrom(int first) {
            switch (first) {
                case 'e':
                    return "e00c00000000;";
                case 'j':
                    return "j0000;";
                case 'u':
                    return "u00;";
                case 'f':
                    return "f00;";
                default:
                    return "";
            }
        }

        private boolean suits(int i, char wanted) {
            switch (wanted) {
                case '0':
                    return digit(i) >= 0 && digit(i) <= 9;
                case 'c':
                    return kind(i) >= 0;
                default:
                    return sign(i) == wanted;
            }
        }
    }

    private static final class Fleet {
        private final int[] numbers = new int[MOST_ENGINES];
        private final int[] kinds = new int[MOST_ENGINES];
        private final int[] figures = new int[MOST_ENGINES];
        private final int[] joined = new int[MOST_ENGINES];
        private final int[] turns = new int[MOST_ENGINES * WEEK];
        private int size;
        private int named;
        private int underlined;
        private int friends;

        private void copyFrom(Fleet other) {
            System.arraycopy(other.numbers, 0, numbers, 0, MOST_ENGINES);
            System.arraycopy(other.kinds, 0, kinds, 0, MOST_ENGINES);
            System.arraycopy(other.figures, 0, figures, 0, MOST_ENGINES);
            System.arraycopy(other.joined, 0, joined, 0, MOST_ENGINES);
            System.arraycopy(other.turns, 0, turns, 0, MOST_ENGINES * WEEK);
            size = other.size;
            named = other.named;
            underlined = other.underlined;
            friends = other.friends;
        }

        private boolean knows(int engine) {
            return engine >= 0 && engine < size && engine < MOST_ENGINES;
        }

        private int number(int engine) {
            return knows(engine) ? numbers[engine] : NONE;
        }

        private int numbered(int number) {
            for (int e = 0; e < size; e++) {
                if (number(e) == number) {
                    return e;
                }
            }
            return NONE;
        }

        /** Whether the statement that starts there is as it must be; if so, it has come. */
        private boolean takes(Letters text, int start) {
            int meant = numbered(text.number(start + 1));
            switch (text.sign(start)) {
                case 'e':
                    return meant == NONE && takesEngine(text, start);
                case 'j':
                    return joins(meant, numbered(text.number(start + 3)));
                case 'u':
                    underlined |= bit(meant);
                    return meant != NONE;
                case 'f':
                    friends |= bit(meant);
                    return meant != NONE;
                default:
                    return false;
            }
        }

        private boolean takesEngine(Letters text, int start) {
            int number = text.number(start + 1);
            if (size >= MOST_ENGINES || number < LEAST_NUMBER || number > GREATEST_NUMBER) {
                return false;
            }
            for (int day = 0; day < WEEK; day++) {
                int place = text.digit(start + 5 + day);
                if (!isPlace(place) && place != SHED) {
                    return false;
                }
                turns[size * WEEK + day] = place;
            }
            numbers[size] = number;
            kinds[size] = text.kind(start + 3);
            figures[size] = text.digit(start + 4);
            joined[size] = NONE;
            if (kinds[size] == NAMED) {
                named |= 1 << size;
            }
            size++;
            return true;
        }

        private boolean joins(int one, int other) {
            if (!knows(one) || !knows(other) || one == other || joined[one] != NONE || joined[other] != NONE) {
                return false;
            }
            joined[one] = other;
            joined[other] = one;
            return true;
        }

        private int bit(int engine) {
            return knows(engine) ? 1 << engine : 0;
        }

        private int turnOf(int engine, int weekday) {
            return knows(engine) && weekday >= 0 && weekday < WEEK ? turns[engine * WEEK + weekday] : SHED;
        }

        private int placeOn(int engine, int day) {
            if (!knows(engine) || day < 0) {
                return SHED;
            }
            int week = day / WEEK;
            int weekday = day % WEEK;
            int figure = figures[engine];
            int usual = turnOf(engine, weekday);
            switch (kinds[engine]) {
                case AWAY:
                    return weekday >= figure ? SHED : usual;
                case WORKS:
                    return figure >= 0 && week % (figure + 2) == 0 ? SHED : usual;
                case KEPT:
                    return figure % PLACES;
                case SCRAPPED:
                    return week < figure ? usual : SHED;
                case SWAPPED:
                    return week % 2 == 0 ? usual : turnOf(knows(engine + 1) ? engine + 1 : 0, weekday);
                default:
                    return usual;
            }
        }

        private int passing(int place, int day) {
            int bits = 0;
            for (int e = 0; e < size; e++) {
                if (placeOn(e, day) == place) {
                    bits |= bit(e);
                }
            }
            return bits;
        }

        /** A joined one is on a list by either number. */
        private boolean isOn(int list, int engine) {
            return knows(engine) && (list & (bit(engine) | bit(joined[engine]))) != 0;
        }

        /** Joined ones are one engine; the lesser stands for both, so that they never count twice. */
        private int standIn(int engine) {
            return knows(engine) && knows(joined[engine]) ? Math.min(engine, joined[engine]) : engine;
        }

        /** The stand-ins (bits) of those among these that he has not. */
        private int newOf(int bits) {
            int fresh = 0;
            for (int e = 0; e < size; e++) {
                if ((bits & bit(e)) != 0 && !isOn(underlined, e)) {
                    fresh |= bit(standIn(e));
                }
            }
            return fresh;
        }

        private int worth(int standIns) {
            return Integer.bitCount(standIns) + Integer.bitCount(standIns & named);
        }

        private int worthOfAllNew() {
            return worth(newOf((1 << MOST_ENGINES) - 1));
        }

        private int worthBeyondFriend() {
            int beyond = 0;
            for (int e = 0; e < size; e++) {
                if (isOn(underlined, e) && !isOn(friends, e)) {
                    beyond |= bit(standIn(e));
                }
            }
            return worth(beyond);
        }
    }

    private static final class Book {
        private final int[] days = new int[MOST_READINGS];
        private final int[] places = new int[MOST_READINGS];
        private final int[] numbers = new int[MOST_READINGS];
        private final int[] boys = new int[MOST_READINGS];
        private int size;

        private void copyFrom(Book other) {
            System.arraycopy(other.days, 0, days, 0, MOST_READINGS);
            System.arraycopy(other.places, 0, places, 0, MOST_READINGS);
            System.arraycopy(other.numbers, 0, numbers, 0, MOST_READINGS);
            System.arraycopy(other.boys, 0, boys, 0, MOST_READINGS);
            size = other.size;
        }

        private boolean holds(int i) {
            return i >= 0 && i < size && i < MOST_READINGS;
        }

        private boolean add(int day, int place, int number, int boy) {
            if (size >= MOST_READINGS) {
                return false;
            }
            days[size] = day;
            places[size] = place;
            numbers[size] = number;
            boys[size] = boy;
            size++;
            return true;
        }

        private int readBy(int boy) {
            int bits = 0;
            for (int i = 0; i < size; i++) {
                if (holds(i) && boys[i] == boy) {
                    bits |= 1 << i;
                }
            }
            return bits;
        }

        private boolean cannotBothBe(int i, int j) {
            return holds(i) && holds(j)
                    && numbers[i] == numbers[j] && days[i] == days[j] && places[i] != places[j];
        }

        private int number(int i) {
            return holds(i) ? numbers[i] : 0;
        }

        private int greatestNumber() {
            int greatest = 0;
            for (int i = 0; i < size; i++) {
                greatest = Math.max(greatest, number(i));
            }
            return greatest;
        }

        private int unlikeNumbers() {
            int unlike = 0;
            for (int i = 0; i < size; i++) {
                if (isFirstOfItsNumber(i)) {
                    unlike++;
                }
            }
            return unlike;
        }

        private boolean isFirstOfItsNumber(int i) {
            for (int j = 0; j < i; j++) {
                if (number(j) == number(i)) {
                    return false;
                }
            }
            return true;
        }
    }

    /** Stands apart from the letters, the row and the refusals, for the image holds it and none of those. */
    private static final class World {
        private final Fleet fleet = new Fleet();
        private final Book book = new Book();
        private int today;

        private void copyFrom(World other) {
            fleet.copyFrom(other.fleet);
            book.copyFrom(other.book);
            today = other.today;
        }

        private int newAt(int place, int day) {
            return fleet.newOf(fleet.passing(place, day));
        }

        private int freshWorth(int place, int n) {
            int standIns = 0;
            for (int i = 0; i < n; i++) {
                standIns |= newAt(place, today + i);
            }
            return fleet.worth(standIns);
        }

        private int drawnWorth(int n, int seed) {
            int z = seed;
            int standIns = 0;
            for (int i = 0; i < n; i++) {
                z = z * 1664525 + 1013904223;
                standIns |= newAt((z & WITHOUT_SIGN) / 256 % PLACES, today + i);
            }
            return fleet.worth(standIns);
        }

        private int daysUntil(int engine, int place) {
            for (int i = 0; i <= FAR; i++) {
                int there = fleet.placeOn(engine, today + i);
                if (place == ANYWHERE ? there != SHED : there == place) {
                    return i;
                }
            }
            return NONE;
        }

        private int everWorth() {
            int shown = 0;
            for (int e = 0; e < fleet.size; e++) {
                if (daysUntil(e, ANYWHERE) != NONE) {
                    shown |= fleet.bit(e);
                }
            }
            return fleet.worth(fleet.newOf(shown));
        }

        private boolean goTogether(int one, int other, int n) {
            for (int i = 0; i < n; i++) {
                if (fleet.placeOn(one, today + i) != fleet.placeOn(other, today + i)) {
                    return false;
                }
            }
            return true;
        }

        private int fittingOnes(int reading, boolean right) {
            if (!book.holds(reading)) {
                return 0;
            }
            int read = book.numbers[reading];
            int passed = fleet.passing(book.places[reading], book.days[reading]);
            int bits = 0;
            for (int e = 0; e < fleet.size; e++) {
                int number = fleet.number(e);
                if (right ? number == read : blurred(number) == blurred(read)) {
                    bits |= passed & fleet.bit(e);
                }
            }
            return bits;
        }

        private int madeUpOnes() {
            int bits = 0;
            for (int i = 0; i < book.size; i++) {
                if (fittingOnes(i, false) == 0) {
                    bits |= 1 << i;
                }
            }
            return bits;
        }

        /** Numbers that may be misread for one another are one number when blurred. */
        private static int blurred(int number) {
            return 10 * blurredFigure(number / 10) + blurredFigure(number % 10);
        }

        private static int blurredFigure(int figure) {
            return figure == 8 ? 3 : figure;
        }
    }

    private static final class Planner {
        private final int[] newThere = new int[MOST_PLAN_DAYS * PLACES];
        private final int[] tried = new int[MOST_PLAN_DAYS];
        private final int[] best = new int[MOST_PLAN_DAYS];
        private int bestWorth;
        private int mostWorth;

        private void search(World world, int n, int coin) {
            int reach = 0;
            for (int i = 0; i < n * PLACES && i < newThere.length; i++) {
                newThere[i] = world.newAt(i % PLACES, world.today + i / PLACES);
                reach |= newThere[i];
            }
            bestWorth = -1;
            mostWorth = world.fleet.worth(reach);
            extend(this, world.fleet, n, 0, coin, 0);
        }

        /**
         * Goes through the plans by their places in order, so that the first of the best ones is kept,
         * and no further than to one that brings all that passes in those days: no later one can beat it.
         */
        private static void extend(Planner p, Fleet fleet, int n, int day, int coin, int seen) {
            if (day >= n || day >= MOST_PLAN_DAYS || day < 0) {
                p.keepIfBetter(fleet.worth(seen));
                return;
            }
            for (int place = 0; place < PLACES && p.bestWorth < p.mostWorth; place++) {
                int fare = day == 0 ? 0 : Math.abs(place - p.tried[day - 1]);
                if (fare <= coin) {
                    p.tried[day] = place;
                    extend(p, fleet, n, day + 1, coin - fare, seen | p.newThere[day * PLACES + place]);
                }
            }
        }

        private void keepIfBetter(int worth) {
            if (worth > bestWorth) {
                bestWorth = worth;
                System.arraycopy(tried, 0, best, 0, MOST_PLAN_DAYS);
            }
        }
    }
}
