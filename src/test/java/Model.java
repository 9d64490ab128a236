import java.util.ArrayDeque;
import java.util.ArrayList;
import java.util.Arrays;
import java.util.HashMap;
import java.util.List;
import java.util.Map;
import java.util.Set;

/**
 * The document once more, as slowly and as plainly as can be, with the whole Java library:
 * nothing is kept that could be worked out anew. The program is compared with it.
 */
final class Model {
    static final int NONE = -1;
    static final long NOTHING = -1000000000000000L;
    static final Set<String> OWN = Set.of("place", "street", "from", "to", "takes", "round", "shift", "wide", "walker",
        "broad", "at", "begin", "tide", "clock", "day", "min", "max");

    static final class Fault extends RuntimeException {
        final int kind;
        final int place;

        Fault(int kind, int place) {
            this.kind = kind;
            this.place = place;
        }
    }

    /** A sum or a test in an hour. */
    interface Value {
        long in(long hour, long tide, long round);
    }

    static final class Street {
        String name;
        int from;
        int to;
        int takes;
        int round;
        int shift;
        Value sum;
    }

    static final class Walker {
        String name;
        int broad;
        int at;
        int to;
    }

    static final class Town {
        final List<String> places = new ArrayList<>();
        final List<Street> streets = new ArrayList<>();
        final List<Walker> walkers = new ArrayList<>();
        int begin;
        int statements;
    }

    static final class State {
        int hour;
        int[] shift;
        int[] at;
        int[] to;
        int[] free;

        State copy() {
            State other = new State();
            other.hour = hour;
            other.shift = shift.clone();
            other.at = at.clone();
            other.to = to.clone();
            other.free = free.clone();
            return other;
        }
    }

    static final class Step {
        int street;
        int hour;
    }

    static final class Way {
        int arrival;
        List<Step> steps = new ArrayList<>();
    }

    List<Integer> tape = new ArrayList<>();
    Town town = new Town();
    State now = stateOf(town);
    ArrayDeque<State> past = new ArrayDeque<>();
    List<int[]> seen = new ArrayList<>();
    List<Integer> picture = new ArrayList<>();
    int[] refusals = new int[6];
    int fault;
    int faultPlace = NONE;
    long seed = 1;

    static State stateOf(Town town) {
        State s = new State();
        s.hour = town.begin;
        s.shift = town.streets.stream().mapToInt(x -> x.shift % x.round).toArray();
        s.at = town.walkers.stream().mapToInt(x -> x.at).toArray();
        s.to = town.walkers.stream().mapToInt(x -> x.to).toArray();
        s.free = new int[town.walkers.size()];
        return s;
    }

    // ---- the language

    /** A text in which the next token is looked at; kinds: w word, n number, e end, s sign. */
    static final class Text {
        final int[] bytes;
        int pos;
        int behind = -1;

        Text(List<Integer> tape) {
            bytes = tape.stream().mapToInt(x -> x).toArray();
        }

        char at(int k) {
            return k < bytes.length ? (char) bytes[k] : 0xffff;
        }

        static boolean letter(char c) {
            return c >= 'a' && c <= 'z';
        }

        static boolean digit(char c) {
            return c >= '0' && c <= '9';
        }

        Text blanks() {
            while (at(pos) == ' ' || at(pos) == '\n') {
                pos++;
            }
            return this;
        }

        boolean ended() {
            blanks();
            return pos >= bytes.length;
        }

        boolean glued() {
            return pos == behind;
        }

        /** The whole word here, or "" when there is none or it is glued. */
        String word() {
            blanks();
            StringBuilder b = new StringBuilder();
            for (int k = pos; letter(at(k)) && !glued(); k++) {
                b.append(at(k));
            }
            return b.toString();
        }

        boolean takes(String token) {
            blanks();
            if (letter(token.charAt(0))) {
                if (!word().equals(token)) {
                    return false;
                }
                pos += token.length();
                behind = pos;
                return true;
            }
            if (at(pos) != token.charAt(0)) {
                return false;
            }
            pos++;
            return true;
        }

        Fault wrong() {
            blanks();
            return new Fault(1, pos);
        }

        void must(String token) {
            if (!takes(token)) {
                throw wrong();
            }
        }

        int number(int least, int most) {
            blanks();
            if (glued() || !digit(at(pos))) {
                throw wrong();
            }
            int end = pos;
            while (digit(at(end))) {
                end++;
            }
            if (end - pos > 4) {
                throw new Fault(1, pos + 4);
            }
            StringBuilder b = new StringBuilder();
            for (int k = pos; k < end; k++) {
                b.append(at(k));
            }
            int n = Integer.parseInt(b.toString());
            if (n < least || n > most) {
                throw new Fault(2, pos);
            }
            pos = end;
            behind = end;
            return n;
        }

        /** A name, and where it began (behind minus its length). */
        String name() {
            String w = word();
            if (w.isEmpty()) {
                throw wrong();
            }
            if (w.length() > 6) {
                throw new Fault(1, pos + 6);
            }
            if (OWN.contains(w)) {
                throw new Fault(1, pos);
            }
            pos += w.length();
            behind = pos;
            return w;
        }
    }

    static long held(long n) {
        return Math.max(-1000000, Math.min(1000000, n));
    }

    static void opens(int open, int place) {
        if (open == 6) {
            throw new Fault(4, place);
        }
    }

    Value sum(Text t, int open, boolean asks) {
        Value left = product(t, open, asks);
        while (true) {
            Value a = left;
            if (t.takes("+")) {
                Value b = product(t, open, asks);
                left = (h, i, r) -> held(a.in(h, i, r) + b.in(h, i, r));
            } else if (t.takes("-")) {
                Value b = product(t, open, asks);
                left = (h, i, r) -> held(a.in(h, i, r) - b.in(h, i, r));
            } else {
                return left;
            }
        }
    }

    Value product(Text t, int open, boolean asks) {
        Value left = part(t, open, asks);
        while (true) {
            Value a = left;
            if (t.takes("*")) {
                Value b = part(t, open, asks);
                left = (h, i, r) -> held(a.in(h, i, r) * b.in(h, i, r));
            } else if (t.takes("/")) {
                Value b = part(t, open, asks);
                left = (h, i, r) -> {
                    long d = b.in(h, i, r);
                    return d == 0 ? 0 : Math.floorDiv(a.in(h, i, r), d);
                };
            } else {
                return left;
            }
        }
    }

    Value inner(Text t, int open, boolean asks) {
        t.blanks();
        int place = t.pos;
        t.must("(");
        opens(open, place);
        return sum(t, open + 1, asks);
    }

    Value part(Text t, int open, boolean asks) {
        t.blanks();
        int place = t.pos;
        if (Text.digit(t.at(t.pos))) {
            int n = t.number(0, 9999);
            return (h, i, r) -> n;
        }
        if (t.at(t.pos) == '(') {
            Value v = inner(t, open, asks);
            t.must(")");
            return v;
        }
        if (t.takes("clock")) {
            return (h, i, r) -> h % 24;
        }
        if (t.takes("day")) {
            return (h, i, r) -> h / 24;
        }
        for (String extreme : List.of("min", "max")) {
            if (t.takes(extreme)) {
                Value a = inner(t, open, asks);
                t.must(",");
                Value b = sum(t, open + 1, asks);
                t.must(")");
                return extreme.equals("min") ? (h, i, r) -> Math.min(a.in(h, i, r), b.in(h, i, r))
                    : (h, i, r) -> Math.max(a.in(h, i, r), b.in(h, i, r));
            }
        }
        if (!asks && t.takes("tide")) {
            return (h, i, r) -> i;
        }
        if (!asks && t.takes("round")) {
            return (h, i, r) -> r;
        }
        if (asks && t.takes("hour")) {
            return (h, i, r) -> h;
        }
        if (asks && Set.of("width", "tide", "passes").contains(t.word())) {
            String of = t.word();
            opens(open, place);
            t.must(of);
            Value which = part(t, open + 1, true);
            return (h, i, r) -> ofTown(of, which.in(h, i, r), (int) h);
        }
        throw t.wrong();
    }

    long ofTown(String of, long which, int hour) {
        if (of.equals("passes")) {
            if (which < 0 || which >= town.walkers.size()) {
                return 0;
            }
            int count = 0;
            for (int s = 0; s < town.streets.size(); s++) {
                count += canPass(s, town.walkers.get((int) which).broad, hour) ? 1 : 0;
            }
            return count;
        }
        if (which < 0 || which >= town.streets.size()) {
            return 0;
        }
        return of.equals("width") ? widthOf((int) which, hour) : tideOf((int) which, hour);
    }

    Value test(Text t, int open) {
        Value left = both(t, open);
        while (t.takes("or")) {
            Value a = left;
            Value b = both(t, open);
            left = (h, i, r) -> a.in(h, i, r) + b.in(h, i, r) > 0 ? 1 : 0;
        }
        return left;
    }

    Value both(Text t, int open) {
        Value left = fact(t, open);
        while (t.takes("and")) {
            Value a = left;
            Value b = fact(t, open);
            left = (h, i, r) -> a.in(h, i, r) * b.in(h, i, r);
        }
        return left;
    }

    Value fact(Text t, int open) {
        t.blanks();
        int place = t.pos;
        if (t.word().equals("not")) {
            opens(open, place);
            t.must("not");
            Value v = fact(t, open + 1);
            return (h, i, r) -> 1 - v.in(h, i, r);
        }
        if (t.at(t.pos) == '[') {
            opens(open, place);
            t.must("[");
            Value v = test(t, open + 1);
            t.must("]");
            return v;
        }
        if (t.takes("all")) {
            return (h, i, r) -> 1;
        }
        Value a = sum(t, open, true);
        String sign = t.takes("<") ? "<" : t.takes(">") ? ">" : t.takes("=") ? "=" : "";
        if (sign.isEmpty()) {
            throw t.wrong();
        }
        Value b = sum(t, open, true);
        return (h, i, r) -> {
            int c = Long.compare(a.in(h, i, r), b.in(h, i, r));
            return (sign.equals("<") ? c < 0 : sign.equals(">") ? c > 0 : c == 0) ? 1 : 0;
        };
    }

    static final class Draft {
        final Town town = new Town();
        final Map<String, String> sorts = new HashMap<>();
        Text t;

        String fresh(String sort) {
            String name = t.name();
            if (sorts.containsKey(name)) {
                throw new Fault(3, t.behind - name.length());
            }
            sorts.put(name, sort);
            return name;
        }

        int place(int unlike) {
            String name = t.name();
            int which = town.places.indexOf(name);
            if (which < 0 || which == unlike) {
                throw new Fault(3, t.behind - name.length());
            }
            return which;
        }
    }

    Town townOf(Text t) {
        Draft d = new Draft();
        d.t = t;
        while (!t.ended()) {
            int first = t.pos;
            if (d.town.statements == 70) {
                throw new Fault(5, first);
            }
            String word = t.word();
            if (word.equals("place") && d.town.places.size() == 9 || word.equals("street") && d.town.streets.size() == 12
                || word.equals("walker") && d.town.walkers.size() == 6) {
                throw new Fault(5, first);
            }
            if (t.takes("place")) {
                d.town.places.add(d.fresh("place"));
            } else if (t.takes("street")) {
                street(d, t);
            } else if (t.takes("walker")) {
                Walker w = new Walker();
                w.name = d.fresh("walker");
                t.must("broad");
                w.broad = t.number(1, 99);
                t.must("at");
                w.at = d.place(NONE);
                t.must("to");
                w.to = d.place(w.at);
                d.town.walkers.add(w);
            } else if (t.takes("begin")) {
                d.town.begin = t.number(0, 999);
            } else {
                throw t.wrong();
            }
            t.must(";");
            d.town.statements++;
        }
        return d.town;
    }

    void street(Draft d, Text t) {
        Street s = new Street();
        s.name = d.fresh("street");
        t.must("from");
        s.from = d.place(NONE);
        t.must("to");
        s.to = d.place(s.from);
        t.must("takes");
        s.takes = t.number(1, 4);
        t.must("round");
        s.round = t.number(1, 48);
        t.must("shift");
        s.shift = t.number(0, 47);
        t.must("wide");
        s.sum = sum(t, 0, false);
        d.town.streets.add(s);
    }

    // ---- hours, widths, ways

    long tideWith(int street, int shift, int hour) {
        return (hour + shift) % town.streets.get(street).round;
    }

    long tideOf(int street, int hour) {
        return tideWith(street, now.shift[street], hour);
    }

    int widthWith(int street, int shift, int hour) {
        Street s = town.streets.get(street);
        return (int) Math.max(0, Math.min(99, s.sum.in(hour, tideWith(street, shift, hour), s.round)));
    }

    int widthOf(int street, int hour) {
        return widthWith(street, now.shift[street], hour);
    }

    boolean canPass(int street, int broad, int hour) {
        return canPass(street, broad, hour, new int[0][0]);
    }

    /** With busy[street][hour - now.hour], what is in the streets already. */
    boolean canPass(int street, int broad, int hour, int[][] busy) {
        for (int k = 0; k < town.streets.get(street).takes; k++) {
            int load = busy.length == 0 ? 0 : busy[street][hour + k - now.hour];
            if (widthOf(street, hour + k) < broad + load) {
                return false;
            }
        }
        return true;
    }

    int setOut(int walker) {
        return Math.max(now.hour, now.free[walker]);
    }

    /** The first hours at all places, hour by hour; NONE where none. */
    int[] arrivals(int broad, int from, int set, int limit, int without, int[][] busy) {
        int places = town.places.size();
        boolean[][] there = new boolean[limit + 1][places];
        there[0][from] = true;
        int[] first = new int[places];
        Arrays.fill(first, NONE);
        for (int k = 0; k <= limit; k++) {
            for (int p = 0; p < places; p++) {
                there[k][p] |= k > 0 && there[k - 1][p];
                if (there[k][p] && first[p] == NONE) {
                    first[p] = set + k;
                }
            }
            for (int s = 0; s < town.streets.size(); s++) {
                Street x = town.streets.get(s);
                if (s == without || k + x.takes > limit || !there[k][x.from] && !there[k][x.to]
                    || !canPass(s, broad, set + k, busy)) {
                    continue;
                }
                there[k + x.takes][x.to] |= there[k][x.from];
                there[k + x.takes][x.from] |= there[k][x.to];
            }
        }
        return first;
    }

    int other(int street, int place) {
        Street x = town.streets.get(street);
        return x.from == place ? x.to : x.to == place ? x.from : NONE;
    }

    Way wayOf(int walker, int without, int[][] busy) {
        int broad = town.walkers.get(walker).broad;
        int[] first = arrivals(broad, now.at[walker], setOut(walker), 400, without, busy);
        if (first[now.to[walker]] == NONE) {
            return null;
        }
        Way way = new Way();
        way.arrival = first[now.to[walker]];
        int place = now.to[walker];
        while (place != now.at[walker]) {
            place = stepBack(way, place, first, broad, without, busy);
        }
        return way;
    }

    private int stepBack(Way way, int place, int[] first, int broad, int without, int[][] busy) {
        for (int s = 0; s < town.streets.size(); s++) {
            int other = other(s, place);
            if (other == NONE || s == without || first[other] == NONE) {
                continue;
            }
            for (int h = first[other]; h + town.streets.get(s).takes <= first[place]; h++) {
                if (canPass(s, broad, h, busy) && h + town.streets.get(s).takes == first[place]) {
                    Step step = new Step();
                    step.street = s;
                    step.hour = h;
                    way.steps.add(0, step);
                    return other;
                } else if (canPass(s, broad, h, busy)) {
                    break;
                }
            }
        }
        throw new IllegalStateException("no step back");
    }

    Way wayOf(int walker) {
        return hasWalker(walker) ? wayOf(walker, NONE, new int[0][0]) : null;
    }

    boolean hasStreet(int s) {
        return s >= 0 && s < town.streets.size();
    }

    boolean hasWalker(int w) {
        return w >= 0 && w < town.walkers.size();
    }

    // ---- the face

    int feed(int... five) {
        if (tape.size() > 1580) {
            refusals[0]++;
            return NONE;
        }
        for (int n : five) {
            for (int k = 3; k >= 0; k--) {
                tape.add(n >> 8 * k & 255);
            }
        }
        return tape.size();
    }

    boolean end(int n) {
        if (n < 0 || n > tape.size()) {
            refusals[0]++;
            return false;
        }
        tape = new ArrayList<>(tape.subList(0, n));
        return true;
    }

    List<Integer> taken() {
        List<Integer> all = tape;
        tape = new ArrayList<>();
        return all;
    }

    int town() {
        fault = 0;
        faultPlace = NONE;
        try {
            town = townOf(new Text(taken()));
        } catch (Fault f) {
            fault = f.kind;
            faultPlace = f.place;
            refusals[1]++;
            return NONE;
        }
        now = stateOf(town);
        past.clear();
        seen.clear();
        return town.statements;
    }

    int fault(int what) {
        return what == 0 ? fault : what == 1 ? faultPlace : NONE;
    }

    int has(int what) {
        int free = 0;
        for (int f : now.free) {
            free += f <= now.hour ? 1 : 0;
        }
        int[] all = {town.places.size(), town.streets.size(), town.walkers.size(), now.hour, now.hour / 24,
            now.hour % 24, free, seen.size(), past.size()};
        return what >= 0 && what < all.length ? all[what] : NONE;
    }

    int letter(int kind, int which, int k) {
        List<String> names = kind == 0 ? town.places : kind == 1 ? town.streets.stream().map(x -> x.name).toList()
            : kind == 2 ? town.walkers.stream().map(x -> x.name).toList() : List.of();
        if (which < 0 || which >= names.size() || k < 0 || k > 5) {
            return NONE;
        }
        return k < names.get(which).length() ? names.get(which).charAt(k) - 'a' + 1 : 0;
    }

    int street(int s, int what) {
        if (!hasStreet(s) || what < 0 || what > 6) {
            return NONE;
        }
        Street x = town.streets.get(s);
        return new int[] {x.from, x.to, x.takes, x.round, now.shift[s], (int) tideOf(s, now.hour), widthOf(s, now.hour)}[what];
    }

    int walker(int w, int what) {
        if (!hasWalker(w) || what < 0 || what > 3) {
            return NONE;
        }
        return new int[] {town.walkers.get(w).broad, now.at[w], now.to[w], now.free[w]}[what];
    }

    int width(int s, int hour) {
        return hasStreet(s) && hour >= 0 && hour <= 99999 ? widthOf(s, hour) : NONE;
    }

    boolean isAsked(int s, int broad, int hour) {
        return hasStreet(s) && broad >= 1 && broad <= 99 && hour >= 0 && hour <= 99999;
    }

    int passes(int s, int broad, int hour) {
        return isAsked(s, broad, hour) ? canPass(s, broad, hour) ? 1 : 0 : NONE;
    }

    int next(int s, int broad, int hour) {
        for (int h = hour; isAsked(s, broad, hour) && h <= hour + 400; h++) {
            if (canPass(s, broad, h)) {
                return h;
            }
        }
        return NONE;
    }

    int often(int s, int broad, int hour, int n) {
        if (!isAsked(s, broad, hour) || n < 1 || n > 1000) {
            return NONE;
        }
        int count = 0;
        for (int k = 0; k < n; k++) {
            count += canPass(s, broad, hour + k) ? 1 : 0;
        }
        return count;
    }

    int wide(int streets, int n) {
        if (streets <= 0 || streets >> town.streets.size() != 0 || n < 1 || n > 99) {
            return NONE;
        }
        for (int h = now.hour; h <= now.hour + 400; h++) {
            boolean all = true;
            for (int s = 0; s < town.streets.size(); s++) {
                all &= (streets & 1 << s) == 0 || widthOf(s, h) >= n;
            }
            if (all) {
                return h;
            }
        }
        return NONE;
    }

    int way(int w, int k) {
        Way way = wayOf(w);
        if (way == null) {
            return NONE;
        }
        if (k == NONE) {
            return way.arrival;
        }
        if (k == 20) {
            return way.steps.size();
        }
        if (k >= 0 && k < 12 && k < way.steps.size()) {
            return way.steps.get(k).street;
        }
        return k >= 100 && k < 112 && k - 100 < way.steps.size() ? way.steps.get(k - 100).hour : NONE;
    }

    int arrival(int w, int place) {
        if (!hasWalker(w) || place < 0 || place >= town.places.size()) {
            return NONE;
        }
        return arrivals(town.walkers.get(w).broad, now.at[w], setOut(w), 400, NONE, new int[0][0])[place];
    }

    int stuck(int w, int what) {
        if (!hasWalker(w) || what < 0 || what > 1) {
            return NONE;
        }
        int far = 1000;
        int[] least = new int[town.places.size()];
        Arrays.fill(least, far);
        least[now.at[w]] = 0;
        for (int round = 0; round < 9; round++) {
            for (Street x : town.streets) {
                least[x.to] = Math.min(least[x.to], least[x.from] + x.takes);
                least[x.from] = Math.min(least[x.from], least[x.to] + x.takes);
            }
        }
        if (least[now.to[w]] >= far) {
            return NONE;
        }
        List<Integer> steps = new ArrayList<>();
        for (int place = now.to[w]; place != now.at[w];) {
            for (int s = 0; s < town.streets.size(); s++) {
                int other = other(s, place);
                if (other != NONE && least[other] + town.streets.get(s).takes == least[place]) {
                    steps.add(0, s);
                    place = other;
                    break;
                }
            }
        }
        int hour = setOut(w);
        for (int s : steps) {
            for (int k = 0; k < town.streets.get(s).takes; k++, hour++) {
                if (widthOf(s, hour) < town.walkers.get(w).broad) {
                    return what == 0 ? hour : s;
                }
            }
        }
        return NONE;
    }

    int needed(int w) {
        if (wayOf(w) == null) {
            return NONE;
        }
        int bits = 0;
        for (int s = 0; s < town.streets.size(); s++) {
            bits |= wayOf(w, s, new int[0][0]) == null ? 1 << s : 0;
        }
        return bits;
    }

    int parade(int w, int n) {
        Way way = wayOf(w);
        if (way == null || n < 0 || n > 48) {
            return NONE;
        }
        for (int set = now.hour; set <= now.hour + 400; set++) {
            int hour = set;
            boolean fits = true;
            for (Step step : way.steps) {
                int takes = town.streets.get(step.street).takes;
                for (int k = 0; k < takes + n; k++) {
                    fits &= widthOf(step.street, hour + k) >= town.walkers.get(w).broad;
                }
                hour += takes;
            }
            if (fits) {
                return set;
            }
        }
        return NONE;
    }

    int rows(int n, int k) {
        if (n < 1 || n > 4 || n > town.walkers.size()) {
            return NONE;
        }
        List<int[]> orders = new ArrayList<>();
        order(new int[n], 0, orders);
        long best = Long.MAX_VALUE;
        int[] bestOrder = null;
        int[] bestArrivals = null;
        for (int[] order : orders) {
            int[] there = arrivalsIn(order);
            if (there == null) {
                continue;
            }
            long last = Arrays.stream(there).max().getAsInt();
            long worth = last * 1000000 + Arrays.stream(there).sum();
            if (worth < best) {
                best = worth;
                bestOrder = order;
                bestArrivals = there;
            }
        }
        if (bestOrder == null) {
            return NONE;
        }
        if (k == NONE) {
            return (int) (best / 1000000);
        }
        return k >= 0 && k < n ? bestOrder[k] : k >= 10 && k < 10 + n ? bestArrivals[k - 10] : NONE;
    }

    private void order(int[] order, int k, List<int[]> all) {
        if (k == order.length) {
            all.add(order.clone());
            return;
        }
        for (int w = 0; w < order.length; w++) {
            boolean met = false;
            for (int j = 0; j < k; j++) {
                met |= order[j] == w;
            }
            if (!met) {
                order[k] = w;
                order(order, k + 1, all);
            }
        }
    }

    private int[] arrivalsIn(int[] order) {
        int[][] busy = new int[town.streets.size()][11000];
        int[] there = new int[order.length];
        for (int w : order) {
            Way way = wayOf(w, NONE, busy);
            if (way == null) {
                return null;
            }
            there[w] = way.arrival;
            for (Step step : way.steps) {
                for (int k = 0; k < town.streets.get(step.street).takes; k++) {
                    busy[step.street][step.hour + k - now.hour] += town.walkers.get(w).broad;
                }
            }
        }
        return there;
    }

    int doctors(int broad, int within, int k) {
        int places = town.places.size();
        if (broad < 1 || broad > 99 || within < 0 || within > 400 || places == 0) {
            return NONE;
        }
        boolean[][][] reached = new boolean[24][places][places];
        for (int c = 0; c < 24; c++) {
            for (int d = 0; d < places; d++) {
                int[] first = arrivals(broad, d, now.hour + c, within, NONE, new int[0][0]);
                for (int p = 0; p < places; p++) {
                    reached[c][d][p] = first[p] != NONE;
                }
            }
        }
        int best = NONE;
        List<Integer> bestSet = List.of();
        for (int set = 1; set < 1 << places; set++) {
            int size = Integer.bitCount(set);
            if (size > 3 || !serves(set, reached)) {
                continue;
            }
            List<Integer> list = new ArrayList<>();
            for (int p = 0; p < places; p++) {
                if ((set >> p & 1) == 1) {
                    list.add(p);
                }
            }
            if (best == NONE || size < best || size == best && list.toString().compareTo(bestSet.toString()) < 0) {
                best = size;
                bestSet = list;
            }
        }
        return k == NONE ? best : k >= 0 && k < bestSet.size() ? bestSet.get(k) : NONE;
    }

    private boolean serves(int set, boolean[][][] reached) {
        for (boolean[][] hour : reached) {
            for (int p = 0; p < hour.length; p++) {
                boolean any = false;
                for (int d = 0; d < hour.length; d++) {
                    any |= (set >> d & 1) == 1 && hour[d][p];
                }
                if (!any) {
                    return false;
                }
            }
        }
        return true;
    }

    private int refused(int what) {
        refusals[what]++;
        return NONE;
    }

    private void keep() {
        past.addLast(now.copy());
        if (past.size() > 20) {
            past.removeFirst();
        }
    }

    int go(int n) {
        if (n < 1 || n > 500 || now.hour + n > 9999) {
            return refused(2);
        }
        keep();
        now.hour += n;
        return now.hour;
    }

    int send(int w) {
        Way way = wayOf(w);
        if (way == null || way.arrival > 9999) {
            return refused(2);
        }
        keep();
        int at = now.at[w];
        now.at[w] = now.to[w];
        now.to[w] = at;
        now.free[w] = way.arrival;
        return way.arrival;
    }

    int hold(int s, int n) {
        if (!hasStreet(s) || n < 1 || n > 99) {
            return refused(2);
        }
        keep();
        int round = town.streets.get(s).round;
        now.shift[s] = ((now.shift[s] - n) % round + round) % round;
        return now.shift[s];
    }

    int days(int n) {
        if (n < 1 || n > 30 || now.hour + 24 * n > 9999) {
            return refused(2);
        }
        keep();
        for (int k = 0; k < n; k++) {
            now.hour += 24;
            if (!town.streets.isEmpty()) {
                int s = draw(town.streets.size());
                int round = town.streets.get(s).round;
                now.shift[s] = (now.shift[s] + draw(3) - 1 + round) % round;
            }
        }
        return now.hour;
    }

    private int draw(int m) {
        seed = (1103515245L * seed + 12345) % (1L << 31);
        return (int) (Math.floorDiv(seed, 64L) % m);
    }

    boolean undo() {
        if (past.isEmpty()) {
            refusals[3]++;
            return false;
        }
        now = past.removeLast();
        return true;
    }

    boolean seed(int n) {
        if (n < 0) {
            refusals[4]++;
            return false;
        }
        seed = n;
        return true;
    }

    int see() {
        List<Integer> bytes = taken();
        List<int[]> rows = new ArrayList<>();
        for (int k = 0; k + 3 < bytes.size(); k += 4) {
            rows.add(new int[] {bytes.get(k), bytes.get(k + 1) * 256 + bytes.get(k + 2), bytes.get(k + 3)});
        }
        if (bytes.size() % 4 != 0 || rows.isEmpty() || rows.size() > 20
            || rows.stream().anyMatch(r -> !hasStreet(r[0]) || r[2] > 99)) {
            return refused(1);
        }
        seen = rows;
        return rows.size();
    }

    List<Integer> shiftsOf(int s) {
        List<Integer> fit = new ArrayList<>();
        for (int k = 0; k < town.streets.get(s).round; k++) {
            int shift = k;
            if (seen.stream().allMatch(r -> r[0] != s || widthWith(s, shift, r[1]) == r[2])) {
                fit.add(k);
            }
        }
        return fit;
    }

    int shifts(int s, int k) {
        if (!hasStreet(s)) {
            return NONE;
        }
        List<Integer> fit = shiftsOf(s);
        return k == NONE ? fit.size() : k >= 0 && k < fit.size() ? fit.get(k) : NONE;
    }

    int telling(int s, int what) {
        if (!hasStreet(s) || what < 0 || what > 1 || shiftsOf(s).isEmpty()) {
            return NONE;
        }
        int best = 0;
        int fewest = 1000;
        for (int h = now.hour; h < now.hour + town.streets.get(s).round; h++) {
            Map<Integer, Integer> alike = new HashMap<>();
            for (int shift : shiftsOf(s)) {
                alike.merge(widthWith(s, shift, h), 1, Integer::sum);
            }
            int most = alike.values().stream().mapToInt(x -> x).max().getAsInt();
            if (most < fewest) {
                fewest = most;
                best = h;
            }
        }
        return what == 0 ? best : fewest;
    }

    long ask() {
        fault = 0;
        faultPlace = NONE;
        try {
            return answer(new Text(taken()));
        } catch (Fault f) {
            fault = f.kind;
            faultPlace = f.place;
            return NOTHING;
        }
    }

    private long answer(Text t) {
        String head = t.word();
        if (!Set.of("first", "last", "often", "total", "most", "least").contains(head)) {
            throw t.wrong();
        }
        t.must(head);
        Value v = Set.of("first", "last", "often").contains(head) ? test(t, 0) : sum(t, 0, true);
        if (!t.ended()) {
            throw t.wrong();
        }
        long[] values = new long[201];
        for (int k = 0; k < 201; k++) {
            values[k] = v.in(now.hour + k, 0, 0);
        }
        switch (head) {
            case "first":
                for (int k = 0; k < 201; k++) {
                    if (values[k] != 0) {
                        return now.hour + k;
                    }
                }
                return NONE;
            case "last":
                for (int k = 200; k >= 0; k--) {
                    if (values[k] != 0) {
                        return now.hour + k;
                    }
                }
                return NONE;
            case "most":
                return Arrays.stream(values).max().getAsLong();
            case "least":
                return Arrays.stream(values).min().getAsLong();
            default:
                return Arrays.stream(values).sum();
        }
    }

    static int check(List<Integer> bytes) {
        int c = 163;
        for (int b : bytes) {
            c = (3 * c + b) % 251;
        }
        return c;
    }

    int image() {
        picture = new ArrayList<>(List.of(now.hour >> 8, now.hour & 255));
        for (int shift : now.shift) {
            picture.add(shift);
        }
        for (int w = 0; w < now.at.length; w++) {
            picture.addAll(List.of(now.at[w], now.to[w], now.free[w] >> 8, now.free[w] & 255));
        }
        picture.add(check(picture));
        return picture.size();
    }

    int octet(int k) {
        return k >= 0 && k < picture.size() ? picture.get(k) : NONE;
    }

    boolean on() {
        List<Integer> b = taken();
        State s = stateOf(town);
        int size = 3 + town.streets.size() + 4 * town.walkers.size();
        boolean fits = b.size() == size && b.get(size - 1) == check(b.subList(0, size - 1));
        if (fits) {
            s.hour = b.get(0) * 256 + b.get(1);
            fits = s.hour <= 9999;
            int k = 2;
            for (int i = 0; i < s.shift.length; i++, k++) {
                s.shift[i] = b.get(k);
                fits &= s.shift[i] < town.streets.get(i).round;
            }
            for (int w = 0; w < s.at.length; w++, k += 4) {
                s.at[w] = b.get(k);
                s.to[w] = b.get(k + 1);
                s.free[w] = b.get(k + 2) * 256 + b.get(k + 3);
                Walker x = town.walkers.get(w);
                fits &= s.free[w] <= 9999 && s.at[w] != s.to[w] && (s.at[w] == x.at || s.at[w] == x.to)
                    && (s.to[w] == x.at || s.to[w] == x.to);
            }
        }
        if (!fits) {
            refusals[5]++;
            return false;
        }
        now = s;
        past.clear();
        return true;
    }

    int status(int what) {
        return what >= 0 && what < 6 ? refusals[what] : NONE;
    }
}
