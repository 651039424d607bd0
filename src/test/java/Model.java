import java.util.ArrayList;
import java.util.HashMap;
import java.util.HashSet;
import java.util.List;
import java.util.Map;
import java.util.Set;
import java.util.TreeSet;
import java.util.regex.Matcher;
import java.util.regex.Pattern;

/** The document told a second time, as plainly as it goes and with another's means than the class. */
final class Model {
    private static final Pattern LAND =
            Pattern.compile("(e[0-9]{2}[cawkxsn][0-9][0-9]{7};|j[0-9]{4};|[uf][0-9]{2};)+");
    private static final String SWAPS = "38";

    private static final class Engine {
        int number;
        char kind;
        int figure;
        String turn;
        Integer twin;
    }

    private static final class Reading {
        int day;
        int place;
        int number;
        int boy;
    }

    /** What the image holds. Engines and readings never change but for a twin, which is copied. */
    private static final class State {
        List<Engine> engines = new ArrayList<>();
        Set<Integer> list = new TreeSet<>();
        Set<Integer> friend = new TreeSet<>();
        List<Reading> book = new ArrayList<>();
        int today;

        State copy() {
            State copy = new State();
            for (Engine e : engines) {
                Engine f = new Engine();
                f.number = e.number;
                f.kind = e.kind;
                f.figure = e.figure;
                f.turn = e.turn;
                f.twin = e.twin;
                copy.engines.add(f);
            }
            copy.list.addAll(list);
            copy.friend.addAll(friend);
            copy.book.addAll(book);
            copy.today = today;
            return copy;
        }
    }

    private State now = new State();
    private State image;
    private String letters = "";
    private final List<Integer> row = new ArrayList<>();
    private final Map<Integer, Integer> refusals = new HashMap<>();

    private int refuse(int code) {
        refusals.merge(code, 1, Integer::sum);
        return code;
    }

    private boolean engineIs(int engine) {
        return engine >= 0 && engine < now.engines.size();
    }

    private static boolean in(int value, int least, int greatest) {
        return value >= least && value <= greatest;
    }

    int letter(int c) {
        if (c < 0) {
            return refuse(-4);
        }
        if (c > 255 || letters.length() == 64) {
            return refuse(-6);
        }
        letters += (char) c;
        return letters.length();
    }

    int land() {
        String text = letters;
        letters = "";
        for (int length = 1; length <= text.length(); length++) {
            Matcher matcher = LAND.matcher(text.substring(0, length));
            if (!matcher.matches() && !matcher.hitEnd()) {
                return -1000 - (length - 1);
            }
        }
        if (!LAND.matcher(text).matches()) {
            return -1000 - text.length();
        }
        State next = now.copy();
        int place = 0;
        String[] statements = text.split(";");
        for (String statement : statements) {
            if (!comes(next, statement)) {
                return -2000 - place;
            }
            place += statement.length() + 1;
        }
        now = next;
        return statements.length;
    }

    private static Integer find(State s, String digits) {
        for (int e = 0; e < s.engines.size(); e++) {
            if (s.engines.get(e).number == Integer.parseInt(digits)) {
                return e;
            }
        }
        return null;
    }

    private static boolean comes(State s, String statement) {
        Integer one = find(s, statement.substring(1, 3));
        if (statement.charAt(0) == 'e') {
            Engine e = new Engine();
            e.number = Integer.parseInt(statement.substring(1, 3));
            e.kind = statement.charAt(3);
            e.figure = statement.charAt(4) - '0';
            e.turn = statement.substring(5);
            s.engines.add(e);
            return one == null && e.number >= 10 && e.turn.matches("[012349]*") && s.engines.size() <= 7;
        }
        if (one == null) {
            return false;
        }
        if (statement.charAt(0) == 'j') {
            Integer other = find(s, statement.substring(3, 5));
            if (other == null || other.equals(one)) {
                return false;
            }
            boolean free = s.engines.get(one).twin == null && s.engines.get(other).twin == null;
            s.engines.get(one).twin = other;
            s.engines.get(other).twin = one;
            return free;
        }
        (statement.charAt(0) == 'u' ? s.list : s.friend).add(one);
        return true;
    }

    private boolean hasOn(Set<Integer> list, int engine) {
        Integer twin = now.engines.get(engine).twin;
        return list.contains(engine) || twin != null && list.contains(twin);
    }

    /** How much these count, joined ones together once, as the lesser of them. */
    private int count(Set<Integer> engines) {
        Set<Integer> lesser = new HashSet<>();
        for (int engine : engines) {
            Integer twin = now.engines.get(engine).twin;
            lesser.add(twin == null ? engine : Math.min(engine, twin));
        }
        int sum = 0;
        for (int engine : lesser) {
            sum += now.engines.get(engine).kind == 'n' ? 2 : 1;
        }
        return sum;
    }

    private int countNew(Set<Integer> engines) {
        Set<Integer> fresh = new HashSet<>();
        for (int engine : engines) {
            if (!hasOn(now.list, engine)) {
                fresh.add(engine);
            }
        }
        return count(fresh);
    }

    private Set<Integer> everyone() {
        Set<Integer> all = new TreeSet<>();
        for (int e = 0; e < now.engines.size(); e++) {
            all.add(e);
        }
        return all;
    }

    private int is(int engine, int day) {
        Engine e = now.engines.get(engine);
        int week = day / 7;
        int place = e.turn.charAt(day % 7) - '0';
        switch (e.kind) {
            case 'a':
                return day % 7 < e.figure ? place : 9;
            case 'w':
                return week % (e.figure + 2) != 0 ? place : 9;
            case 'k':
                return e.figure % 5;
            case 'x':
                return week < e.figure ? place : 9;
            case 's':
                Engine next = now.engines.get((engine + 1) % now.engines.size());
                return week % 2 == 0 ? place : next.turn.charAt(day % 7) - '0';
            default:
                return place;
        }
    }

    private Set<Integer> passes(int place, int day) {
        Set<Integer> there = new TreeSet<>();
        for (int e = 0; e < now.engines.size(); e++) {
            if (is(e, day) == place) {
                there.add(e);
            }
        }
        return there;
    }

    private static int bits(Set<Integer> of) {
        int bits = 0;
        for (int one : of) {
            bits |= 1 << one;
        }
        return bits;
    }

    int engine(int engine, int what) {
        if (!engineIs(engine)) {
            return refuse(-1);
        }
        if (!in(what, 0, 6)) {
            return refuse(-2);
        }
        Engine e = now.engines.get(engine);
        int[] answers = {e.number, "cawkxsn".indexOf(e.kind), e.figure, e.twin == null ? -9 : e.twin,
            now.list.contains(engine) ? 1 : 0, now.friend.contains(engine) ? 1 : 0, hasOn(now.list, engine) ? 1 : 0};
        return answers[what];
    }

    int turn(int engine, int day) {
        return !engineIs(engine) ? refuse(-1) : day < 0 ? refuse(-4) : day > 6 ? refuse(-6)
                : now.engines.get(engine).turn.charAt(day) - '0';
    }

    int at(int engine, int day) {
        return !engineIs(engine) ? refuse(-1) : day < 0 ? refuse(-4) : day > 1100 ? refuse(-6) : is(engine, day);
    }

    int pass(int place, int day) {
        return !in(place, 0, 4) ? refuse(-1) : day < 0 ? refuse(-4) : day > 1100 ? refuse(-6) : bits(passes(place, day));
    }

    int stand(int place) {
        if (!in(place, 0, 4)) {
            return refuse(-1);
        }
        if (now.today == 999) {
            return refuse(-6);
        }
        Set<Integer> there = passes(place, now.today);
        int worth = countNew(there);
        now.list.addAll(there);
        now.today++;
        return worth;
    }

    int rest(int n) {
        return n < 1 ? refuse(-4) : n > 60 || now.today + n > 999 ? refuse(-6) : (now.today += n);
    }

    int underline(int engine, int is) {
        if (!engineIs(engine)) {
            return refuse(-1);
        }
        if (!in(is, 0, 1)) {
            return refuse(-2);
        }
        boolean changed = is == 1 ? now.list.add(engine) : now.list.remove(engine);
        return changed ? 1 - is : is;
    }

    private int freshIn(int place, int n) {
        Set<Integer> seen = new TreeSet<>();
        for (int i = 0; i < n; i++) {
            seen.addAll(passes(place, now.today + i));
        }
        return countNew(seen);
    }

    int fresh(int place, int n) {
        return !in(place, 0, 4) ? refuse(-1) : n < 1 ? refuse(-4) : n > 14 ? refuse(-6) : freshIn(place, n);
    }

    int where(int n) {
        if (!in(n, 1, 14)) {
            return refuse(n < 1 ? -4 : -6);
        }
        int best = 4;
        for (int place = 4; place >= 0; place--) {
            best = freshIn(place, n) >= freshIn(best, n) ? place : best;
        }
        return best;
    }

    /** Every plan there is, by number; the answer is how much and then the places. */
    private int[] bestPlan(int n, int coin) {
        int[] best = {-1, 0, 0, 0, 0, 0};
        int plans = (int) Math.pow(5, n);
        List<Set<Integer>> there = new ArrayList<>();
        for (int i = 0; i < n * 5; i++) {
            there.add(passes(i % 5, now.today + i / 5));
        }
        Map<Set<Integer>, Integer> worths = new HashMap<>();
        for (int plan = 0; plan < plans; plan++) {
            String places = "0000" + Integer.toString(plan, 5);
            places = places.substring(places.length() - n);
            int cost = 0;
            Set<Integer> seen = new HashSet<>();
            for (int i = 0; i < n; i++) {
                cost += i == 0 ? 0 : Math.abs(places.charAt(i) - places.charAt(i - 1));
                seen.addAll(there.get(5 * i + places.charAt(i) - '0'));
            }
            int worth = worths.computeIfAbsent(seen, this::countNew);
            if (cost <= coin && worth > best[0]) {
                best[0] = worth;
                for (int i = 0; i < n; i++) {
                    best[i + 1] = places.charAt(i) - '0';
                }
            }
        }
        return best;
    }

    int plan(int n, int coin, int i) {
        if (n < 1 || coin < 0 || i < -1) {
            return refuse(-4);
        }
        if (n > 5 || coin > 20) {
            return refuse(-6);
        }
        return i >= n ? -9 : bestPlan(n, coin)[i + 1];
    }

    int await(int engine, int place) {
        if (!engineIs(engine) || !in(place, 0, 4)) {
            return refuse(-1);
        }
        for (int days = 0; days <= 60; days++) {
            if (is(engine, now.today + days) == place) {
                return days;
            }
        }
        return -9;
    }

    int chase(int engine) {
        if (!engineIs(engine)) {
            return refuse(-1);
        }
        for (int days = 0; days <= 60; days++) {
            if (is(engine, now.today + days) != 9) {
                return days;
            }
        }
        return -9;
    }

    int ever() {
        Set<Integer> seen = new HashSet<>();
        for (int days = 0; days <= 60; days++) {
            for (int place = 0; place < 5; place++) {
                seen.addAll(passes(place, now.today + days));
            }
        }
        return countNew(seen);
    }

    int all() {
        if (countNew(everyone()) == 0) {
            return 0;
        }
        for (int n = 1; n <= 5; n++) {
            if (bestPlan(n, 100)[0] == countNew(everyone())) {
                return n;
            }
        }
        return -9;
    }

    int reading(int day, int place, int number, int boy) {
        if (!in(place, 0, 4) || !in(boy, 0, 3)) {
            return refuse(-1);
        }
        if (day < 0 || number < 10) {
            return refuse(-4);
        }
        if (day > 1100 || number > 99 || now.book.size() == 12) {
            return refuse(-6);
        }
        Reading reading = new Reading();
        reading.day = day;
        reading.place = place;
        reading.number = number;
        reading.boy = boy;
        now.book.add(reading);
        return now.book.size();
    }

    int forget() {
        if (now.book.isEmpty()) {
            return refuse(-3);
        }
        now.book.remove(now.book.size() - 1);
        return now.book.size();
    }

    private static boolean mayBeReadAs(int number, int read) {
        String a = Integer.toString(number);
        String b = Integer.toString(read);
        for (int i = 0; i < 2; i++) {
            boolean swapped = SWAPS.indexOf(a.charAt(i)) >= 0 && SWAPS.indexOf(b.charAt(i)) >= 0;
            if (a.charAt(i) != b.charAt(i) && !swapped) {
                return false;
            }
        }
        return true;
    }

    private Set<Integer> fit(Reading reading, boolean right) {
        Set<Integer> fit = new TreeSet<>();
        for (int e : passes(reading.place, reading.day)) {
            int number = now.engines.get(e).number;
            if (number == reading.number || !right && mayBeReadAs(number, reading.number)) {
                fit.add(e);
            }
        }
        return fit;
    }

    int fitting(int reading, int right) {
        return !in(reading, 0, now.book.size() - 1) ? refuse(-1) : !in(right, 0, 1) ? refuse(-2)
                : bits(fit(now.book.get(reading), right == 1));
    }

    int madeUp() {
        Set<Integer> made = new TreeSet<>();
        for (int i = 0; i < now.book.size(); i++) {
            if (fit(now.book.get(i), false).isEmpty()) {
                made.add(i);
            }
        }
        return bits(made);
    }

    int liars() {
        int[] lies = new int[4];
        int most = 0;
        for (Reading reading : now.book) {
            if (fit(reading, false).isEmpty()) {
                most = Math.max(most, ++lies[reading.boy]);
            }
        }
        Set<Integer> liars = new TreeSet<>();
        for (int boy = 0; boy < 4; boy++) {
            if (most > 0 && lies[boy] == most) {
                liars.add(boy);
            }
        }
        return bits(liars);
    }

    int clash(int what) {
        if (!in(what, 0, 1)) {
            return refuse(-2);
        }
        TreeSet<Integer> clashes = new TreeSet<>();
        for (int j = 0; j < now.book.size(); j++) {
            for (int i = 0; i < j; i++) {
                Reading a = now.book.get(i);
                Reading b = now.book.get(j);
                if (a.number == b.number && a.day == b.day && a.place != b.place) {
                    clashes.add(12 * i + j);
                }
            }
        }
        return what == 0 ? clashes.size() : clashes.isEmpty() ? -9 : clashes.first();
    }

    int sure() {
        Set<Integer> sure = new TreeSet<>();
        for (Reading reading : now.book) {
            Set<Integer> fit = fit(reading, false);
            if (fit.size() == 1) {
                sure.addAll(fit);
            }
        }
        return bits(sure);
    }

    int pairs(int n, int what) {
        if (!in(n, 1, 60)) {
            return refuse(n < 1 ? -4 : -6);
        }
        if (!in(what, 0, 1)) {
            return refuse(-2);
        }
        TreeSet<Integer> pairs = new TreeSet<>();
        for (int a = 0; a < now.engines.size(); a++) {
            for (int b = a + 1; b < now.engines.size(); b++) {
                boolean together = true;
                for (int i = 0; i < n; i++) {
                    together &= is(a, now.today + i) == is(b, now.today + i);
                }
                if (together) {
                    pairs.add(10 * a + b);
                }
            }
        }
        return what == 0 ? pairs.size() : pairs.isEmpty() ? -9 : pairs.first();
    }

    int many() {
        TreeSet<Integer> numbers = new TreeSet<>();
        for (Reading reading : now.book) {
            numbers.add(reading.number);
        }
        int unlike = numbers.size();
        return unlike == 0 ? 0 : (numbers.last() - 9) * (unlike + 1) / unlike - 1;
    }

    int more() {
        Set<Integer> beyond = new HashSet<>();
        for (int e : everyone()) {
            if (hasOn(now.list, e) && !hasOn(now.friend, e)) {
                beyond.add(e);
            }
        }
        return count(beyond);
    }

    int seeds(int n, int z) {
        if (!in(n, 1, 30)) {
            return refuse(n < 1 ? -4 : -6);
        }
        long seed = z;
        Set<Integer> seen = new HashSet<>();
        for (int i = 0; i < n; i++) {
            seed = (int) (seed * 1664525L + 1013904223L);
            seen.addAll(passes((int) ((seed & 0x7fffffffL) / 256 % 5), now.today + i));
        }
        return countNew(seen);
    }

    int row(int v) {
        if (v < 0) {
            return refuse(-4);
        }
        if (v > 9 || row.size() == 14) {
            return refuse(-6);
        }
        row.add(v);
        return row.size();
    }

    int judge(int engine) {
        if (!engineIs(engine)) {
            return refuse(-1);
        }
        int first = -9;
        for (int i = row.size() - 1; i >= 0; i--) {
            first = row.get(i) != is(engine, now.today + i) ? i : first;
        }
        row.clear();
        return first;
    }

    int image() {
        image = now.copy();
        return now.today;
    }

    int on() {
        if (image == null) {
            return refuse(-3);
        }
        now = image.copy();
        return now.today;
    }

    int count(int what) {
        switch (what) {
            case 0:
                return now.engines.size();
            case 1:
                return now.today;
            case 2:
                return now.list.size();
            case 3:
                return countNew(everyone());
            case 4:
                return now.book.size();
            case 5:
                return row.size();
            case 6:
                return letters.length();
            case 7:
                return now.friend.size();
            default:
                return in(what, 11, 16) ? refusals.getOrDefault(10 - what, 0) : -9;
        }
    }
}
